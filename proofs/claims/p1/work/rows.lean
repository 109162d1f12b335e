section
-- ===== PART A: goes FIRST, ahead of the names: the tables' words, and 'selects' of the private methods out of them =====
/-- a private method of a class that the tables say can be made, by its rows of tables_1 -/
def lw_okq (q : MethodName × Nat) : Prop := (q.1.cls ≠ "java/lang/invoke/MethodHandle" ∧ q.1.cls ≠ "java/lang/invoke/VarHandle") ∧ Cond.instantiable q.1.cls q.2 ∈ tables_1 ∧ Cond.privateMethod q.1 ∈ tables_1 ∧ Cond.instanceMethod q.1 ∈ tables_1
theorem lw_p0 : lw_okq (⟨"MownWords", "isStrip", "(I)Z"⟩, 7) := ⟨⟨by decide +kernel, by decide +kernel⟩, List.mem_of_getElem? (i := 16) (by decide +kernel), List.mem_of_getElem? (i := 249) (by decide +kernel), List.mem_of_getElem? (i := 250) (by decide +kernel)⟩
theorem lw_p1 : lw_okq (⟨"MownWords$Tape", "readWord", "(LMownWords$Word;)I"⟩, 5) := ⟨⟨by decide +kernel, by decide +kernel⟩, List.mem_of_getElem? (i := 151) (by decide +kernel), List.mem_of_getElem? (i := 385) (by decide +kernel), List.mem_of_getElem? (i := 386) (by decide +kernel)⟩
theorem lw_p2 : lw_okq (⟨"MownWords$Tape", "nextSign", "()I"⟩, 5) := ⟨⟨by decide +kernel, by decide +kernel⟩, List.mem_of_getElem? (i := 151) (by decide +kernel), List.mem_of_getElem? (i := 389) (by decide +kernel), List.mem_of_getElem? (i := 390) (by decide +kernel)⟩
theorem lw_p3 : lw_okq (⟨"MownWords$Tape", "readPay", "(LMownWords$Word;)I"⟩, 5) := ⟨⟨by decide +kernel, by decide +kernel⟩, List.mem_of_getElem? (i := 151) (by decide +kernel), List.mem_of_getElem? (i := 393) (by decide +kernel), List.mem_of_getElem? (i := 394) (by decide +kernel)⟩
theorem lw_p4 : lw_okq (⟨"MownWords", "isWord", "(I)Z"⟩, 7) := ⟨⟨by decide +kernel, by decide +kernel⟩, List.mem_of_getElem? (i := 16) (by decide +kernel), List.mem_of_getElem? (i := 414) (by decide +kernel), List.mem_of_getElem? (i := 415) (by decide +kernel)⟩
theorem lw_p5 : lw_okq (⟨"MownWords$Row", "sumUp", "(LMownWords$Meadow;)V"⟩, 4) := ⟨⟨by decide +kernel, by decide +kernel⟩, List.mem_of_getElem? (i := 111) (by decide +kernel), List.mem_of_getElem? (i := 472) (by decide +kernel), List.mem_of_getElem? (i := 473) (by decide +kernel)⟩
theorem lw_p6 : lw_okq (⟨"MownWords$Row", "mostBy", "(LMownWords$Meadow;II)I"⟩, 4) := ⟨⟨by decide +kernel, by decide +kernel⟩, List.mem_of_getElem? (i := 111) (by decide +kernel), List.mem_of_getElem? (i := 476) (by decide +kernel), List.mem_of_getElem? (i := 477) (by decide +kernel)⟩
theorem lw_p7 : lw_okq (⟨"MownWords$Row", "firstForMost", "(LMownWords$Meadow;I)I"⟩, 4) := ⟨⟨by decide +kernel, by decide +kernel⟩, List.mem_of_getElem? (i := 111) (by decide +kernel), List.mem_of_getElem? (i := 483) (by decide +kernel), List.mem_of_getElem? (i := 484) (by decide +kernel)⟩
theorem lw_p8 : lw_okq (⟨"MownWords$Meadow", "hasFeud", "(LMownWords$Word;I)Z"⟩, 7) := ⟨⟨by decide +kernel, by decide +kernel⟩, List.mem_of_getElem? (i := 24) (by decide +kernel), List.mem_of_getElem? (i := 510) (by decide +kernel), List.mem_of_getElem? (i := 511) (by decide +kernel)⟩
theorem lw_p9 : lw_okq (⟨"MownWords$Meadow", "wouldRead", "(II)Z"⟩, 7) := ⟨⟨by decide +kernel, by decide +kernel⟩, List.mem_of_getElem? (i := 24) (by decide +kernel), List.mem_of_getElem? (i := 514) (by decide +kernel), List.mem_of_getElem? (i := 515) (by decide +kernel)⟩
theorem lw_p10 : lw_okq (⟨"MownWords$Meadow", "lossOn", "(II)I"⟩, 7) := ⟨⟨by decide +kernel, by decide +kernel⟩, List.mem_of_getElem? (i := 24) (by decide +kernel), List.mem_of_getElem? (i := 527) (by decide +kernel), List.mem_of_getElem? (i := 528) (by decide +kernel)⟩
theorem lw_p11 : lw_okq (⟨"MownWords$Odds", "weigh", "(I)V"⟩, 3) := ⟨⟨by decide +kernel, by decide +kernel⟩, List.mem_of_getElem? (i := 132) (by decide +kernel), List.mem_of_getElem? (i := 562) (by decide +kernel), List.mem_of_getElem? (i := 563) (by decide +kernel)⟩
theorem lw_p12 : lw_okq (⟨"MownWords$Odds", "tallyOf", "(I)LMownWords$Tally;"⟩, 3) := ⟨⟨by decide +kernel, by decide +kernel⟩, List.mem_of_getElem? (i := 132) (by decide +kernel), List.mem_of_getElem? (i := 566) (by decide +kernel), List.mem_of_getElem? (i := 567) (by decide +kernel)⟩
theorem lw_p13 : lw_okq (⟨"MownWords$Word", "placeBehind", "(II)I"⟩, 3) := ⟨⟨by decide +kernel, by decide +kernel⟩, List.mem_of_getElem? (i := 53) (by decide +kernel), List.mem_of_getElem? (i := 623) (by decide +kernel), List.mem_of_getElem? (i := 624) (by decide +kernel)⟩
theorem lw_p14 : lw_okq (⟨"MownWordsModel", "addStrip", "(I)V"⟩, 27) := ⟨⟨by decide +kernel, by decide +kernel⟩, List.mem_of_getElem? (i := 689) (by decide +kernel), List.mem_of_getElem? (i := 785) (by decide +kernel), List.mem_of_getElem? (i := 786) (by decide +kernel)⟩
theorem lw_p15 : lw_okq (⟨"MownWordsModel", "isStrip", "(I)Z"⟩, 27) := ⟨⟨by decide +kernel, by decide +kernel⟩, List.mem_of_getElem? (i := 689) (by decide +kernel), List.mem_of_getElem? (i := 798) (by decide +kernel), List.mem_of_getElem? (i := 799) (by decide +kernel)⟩
def lw_privs_1 : List (MethodName × Nat) := [(⟨"MownWords", "isStrip", "(I)Z"⟩, 7), (⟨"MownWords$Tape", "readWord", "(LMownWords$Word;)I"⟩, 5), (⟨"MownWords$Tape", "nextSign", "()I"⟩, 5), (⟨"MownWords$Tape", "readPay", "(LMownWords$Word;)I"⟩, 5), (⟨"MownWords", "isWord", "(I)Z"⟩, 7), (⟨"MownWords$Row", "sumUp", "(LMownWords$Meadow;)V"⟩, 4), (⟨"MownWords$Row", "mostBy", "(LMownWords$Meadow;II)I"⟩, 4), (⟨"MownWords$Row", "firstForMost", "(LMownWords$Meadow;I)I"⟩, 4), (⟨"MownWords$Meadow", "hasFeud", "(LMownWords$Word;I)Z"⟩, 7), (⟨"MownWords$Meadow", "wouldRead", "(II)Z"⟩, 7), (⟨"MownWords$Meadow", "lossOn", "(II)I"⟩, 7), (⟨"MownWords$Odds", "weigh", "(I)V"⟩, 3), (⟨"MownWords$Odds", "tallyOf", "(I)LMownWords$Tally;"⟩, 3), (⟨"MownWords$Word", "placeBehind", "(II)I"⟩, 3), (⟨"MownWordsModel", "addStrip", "(I)V"⟩, 27), (⟨"MownWordsModel", "isStrip", "(I)Z"⟩, 27)]
theorem lw_r1 : ∀ q ∈ lw_privs_1, lw_okq q := List.forall_mem_cons.mpr ⟨lw_p0, List.forall_mem_cons.mpr ⟨lw_p1, List.forall_mem_cons.mpr ⟨lw_p2, List.forall_mem_cons.mpr ⟨lw_p3, List.forall_mem_cons.mpr ⟨lw_p4, List.forall_mem_cons.mpr ⟨lw_p5, List.forall_mem_cons.mpr ⟨lw_p6, List.forall_mem_cons.mpr ⟨lw_p7, List.forall_mem_cons.mpr ⟨lw_p8, List.forall_mem_cons.mpr ⟨lw_p9, List.forall_mem_cons.mpr ⟨lw_p10, List.forall_mem_cons.mpr ⟨lw_p11, List.forall_mem_cons.mpr ⟨lw_p12, List.forall_mem_cons.mpr ⟨lw_p13, List.forall_mem_cons.mpr ⟨lw_p14, List.forall_mem_cons.mpr ⟨lw_p15, fun _ h => absurd h List.not_mem_nil⟩⟩⟩⟩⟩⟩⟩⟩⟩⟩⟩⟩⟩⟩⟩⟩
theorem lw_p16 : lw_okq (⟨"MownWordsModel", "seenOf", "(I)I"⟩, 27) := ⟨⟨by decide +kernel, by decide +kernel⟩, List.mem_of_getElem? (i := 689) (by decide +kernel), List.mem_of_getElem? (i := 818) (by decide +kernel), List.mem_of_getElem? (i := 819) (by decide +kernel)⟩
theorem lw_p17 : lw_okq (⟨"MownWordsModel", "readsAs", "(I)I"⟩, 27) := ⟨⟨by decide +kernel, by decide +kernel⟩, List.mem_of_getElem? (i := 689) (by decide +kernel), List.mem_of_getElem? (i := 826) (by decide +kernel), List.mem_of_getElem? (i := 827) (by decide +kernel)⟩
theorem lw_p18 : lw_okq (⟨"MownWordsModel", "nearestForm", "(I)I"⟩, 27) := ⟨⟨by decide +kernel, by decide +kernel⟩, List.mem_of_getElem? (i := 689) (by decide +kernel), List.mem_of_getElem? (i := 830) (by decide +kernel), List.mem_of_getElem? (i := 831) (by decide +kernel)⟩
theorem lw_p19 : lw_okq (⟨"MownWordsModel", "hasGrown", "(II)Z"⟩, 27) := ⟨⟨by decide +kernel, by decide +kernel⟩, List.mem_of_getElem? (i := 689) (by decide +kernel), List.mem_of_getElem? (i := 845) (by decide +kernel), List.mem_of_getElem? (i := 846) (by decide +kernel)⟩
theorem lw_p20 : lw_okq (⟨"MownWordsModel", "mowSet", "(II)I"⟩, 27) := ⟨⟨by decide +kernel, by decide +kernel⟩, List.mem_of_getElem? (i := 689) (by decide +kernel), List.mem_of_getElem? (i := 852) (by decide +kernel), List.mem_of_getElem? (i := 853) (by decide +kernel)⟩
theorem lw_p21 : lw_okq (⟨"MownWordsModel", "goWeek", "()V"⟩, 27) := ⟨⟨by decide +kernel, by decide +kernel⟩, List.mem_of_getElem? (i := 689) (by decide +kernel), List.mem_of_getElem? (i := 869) (by decide +kernel), List.mem_of_getElem? (i := 870) (by decide +kernel)⟩
theorem lw_p22 : lw_okq (⟨"MownWordsModel", "nextByte", "()I"⟩, 27) := ⟨⟨by decide +kernel, by decide +kernel⟩, List.mem_of_getElem? (i := 689) (by decide +kernel), List.mem_of_getElem? (i := 889) (by decide +kernel), List.mem_of_getElem? (i := 890) (by decide +kernel)⟩
theorem lw_p23 : lw_okq (⟨"MownWordsModel", "readWords", "()Z"⟩, 27) := ⟨⟨by decide +kernel, by decide +kernel⟩, List.mem_of_getElem? (i := 689) (by decide +kernel), List.mem_of_getElem? (i := 899) (by decide +kernel), List.mem_of_getElem? (i := 900) (by decide +kernel)⟩
theorem lw_p24 : lw_okq (⟨"MownWordsModel", "readWord", "(I)Z"⟩, 27) := ⟨⟨by decide +kernel, by decide +kernel⟩, List.mem_of_getElem? (i := 689) (by decide +kernel), List.mem_of_getElem? (i := 903) (by decide +kernel), List.mem_of_getElem? (i := 904) (by decide +kernel)⟩
theorem lw_p25 : lw_okq (⟨"MownWordsModel", "readNumber", "(II)I"⟩, 27) := ⟨⟨by decide +kernel, by decide +kernel⟩, List.mem_of_getElem? (i := 689) (by decide +kernel), List.mem_of_getElem? (i := 909) (by decide +kernel), List.mem_of_getElem? (i := 910) (by decide +kernel)⟩
theorem lw_p26 : lw_okq (⟨"MownWordsModel", "isWord", "(I)Z"⟩, 27) := ⟨⟨by decide +kernel, by decide +kernel⟩, List.mem_of_getElem? (i := 689) (by decide +kernel), List.mem_of_getElem? (i := 918) (by decide +kernel), List.mem_of_getElem? (i := 919) (by decide +kernel)⟩
theorem lw_p27 : lw_okq (⟨"MownWordsModel", "isWritten", "(II)Z"⟩, 27) := ⟨⟨by decide +kernel, by decide +kernel⟩, List.mem_of_getElem? (i := 689) (by decide +kernel), List.mem_of_getElem? (i := 939) (by decide +kernel), List.mem_of_getElem? (i := 940) (by decide +kernel)⟩
theorem lw_p28 : lw_okq (⟨"MownWordsModel", "hasRoom", "(II)Z"⟩, 27) := ⟨⟨by decide +kernel, by decide +kernel⟩, List.mem_of_getElem? (i := 689) (by decide +kernel), List.mem_of_getElem? (i := 943) (by decide +kernel), List.mem_of_getElem? (i := 944) (by decide +kernel)⟩
theorem lw_p29 : lw_okq (⟨"MownWordsModel", "sizeOf", "(I)I"⟩, 27) := ⟨⟨by decide +kernel, by decide +kernel⟩, List.mem_of_getElem? (i := 689) (by decide +kernel), List.mem_of_getElem? (i := 947) (by decide +kernel), List.mem_of_getElem? (i := 948) (by decide +kernel)⟩
theorem lw_p30 : lw_okq (⟨"MownWordsModel", "letterOf", "(II)I"⟩, 27) := ⟨⟨by decide +kernel, by decide +kernel⟩, List.mem_of_getElem? (i := 689) (by decide +kernel), List.mem_of_getElem? (i := 951) (by decide +kernel), List.mem_of_getElem? (i := 952) (by decide +kernel)⟩
theorem lw_p31 : lw_okq (⟨"MownWordsModel", "mayBe", "(II)Z"⟩, 27) := ⟨⟨by decide +kernel, by decide +kernel⟩, List.mem_of_getElem? (i := 689) (by decide +kernel), List.mem_of_getElem? (i := 959) (by decide +kernel), List.mem_of_getElem? (i := 960) (by decide +kernel)⟩
def lw_privs_2 : List (MethodName × Nat) := [(⟨"MownWordsModel", "seenOf", "(I)I"⟩, 27), (⟨"MownWordsModel", "readsAs", "(I)I"⟩, 27), (⟨"MownWordsModel", "nearestForm", "(I)I"⟩, 27), (⟨"MownWordsModel", "hasGrown", "(II)Z"⟩, 27), (⟨"MownWordsModel", "mowSet", "(II)I"⟩, 27), (⟨"MownWordsModel", "goWeek", "()V"⟩, 27), (⟨"MownWordsModel", "nextByte", "()I"⟩, 27), (⟨"MownWordsModel", "readWords", "()Z"⟩, 27), (⟨"MownWordsModel", "readWord", "(I)Z"⟩, 27), (⟨"MownWordsModel", "readNumber", "(II)I"⟩, 27), (⟨"MownWordsModel", "isWord", "(I)Z"⟩, 27), (⟨"MownWordsModel", "isWritten", "(II)Z"⟩, 27), (⟨"MownWordsModel", "hasRoom", "(II)Z"⟩, 27), (⟨"MownWordsModel", "sizeOf", "(I)I"⟩, 27), (⟨"MownWordsModel", "letterOf", "(II)I"⟩, 27), (⟨"MownWordsModel", "mayBe", "(II)Z"⟩, 27)]
theorem lw_r2 : ∀ q ∈ lw_privs_2, lw_okq q := List.forall_mem_cons.mpr ⟨lw_p16, List.forall_mem_cons.mpr ⟨lw_p17, List.forall_mem_cons.mpr ⟨lw_p18, List.forall_mem_cons.mpr ⟨lw_p19, List.forall_mem_cons.mpr ⟨lw_p20, List.forall_mem_cons.mpr ⟨lw_p21, List.forall_mem_cons.mpr ⟨lw_p22, List.forall_mem_cons.mpr ⟨lw_p23, List.forall_mem_cons.mpr ⟨lw_p24, List.forall_mem_cons.mpr ⟨lw_p25, List.forall_mem_cons.mpr ⟨lw_p26, List.forall_mem_cons.mpr ⟨lw_p27, List.forall_mem_cons.mpr ⟨lw_p28, List.forall_mem_cons.mpr ⟨lw_p29, List.forall_mem_cons.mpr ⟨lw_p30, List.forall_mem_cons.mpr ⟨lw_p31, fun _ h => absurd h List.not_mem_nil⟩⟩⟩⟩⟩⟩⟩⟩⟩⟩⟩⟩⟩⟩⟩⟩
theorem lw_p32 : lw_okq (⟨"MownWordsModel", "lostBy", "(II)I"⟩, 27) := ⟨⟨by decide +kernel, by decide +kernel⟩, List.mem_of_getElem? (i := 689) (by decide +kernel), List.mem_of_getElem? (i := 967) (by decide +kernel), List.mem_of_getElem? (i := 968) (by decide +kernel)⟩
theorem lw_p33 : lw_okq (⟨"MownWordsModel", "lostOn", "(II)I"⟩, 27) := ⟨⟨by decide +kernel, by decide +kernel⟩, List.mem_of_getElem? (i := 689) (by decide +kernel), List.mem_of_getElem? (i := 971) (by decide +kernel), List.mem_of_getElem? (i := 972) (by decide +kernel)⟩
theorem lw_p34 : lw_okq (⟨"MownWordsModel", "findRow", "()V"⟩, 27) := ⟨⟨by decide +kernel, by decide +kernel⟩, List.mem_of_getElem? (i := 689) (by decide +kernel), List.mem_of_getElem? (i := 980) (by decide +kernel), List.mem_of_getElem? (i := 981) (by decide +kernel)⟩
theorem lw_p35 : lw_okq (⟨"MownWordsModel", "tellRow", "(I)I"⟩, 27) := ⟨⟨by decide +kernel, by decide +kernel⟩, List.mem_of_getElem? (i := 689) (by decide +kernel), List.mem_of_getElem? (i := 984) (by decide +kernel), List.mem_of_getElem? (i := 985) (by decide +kernel)⟩
theorem lw_p36 : lw_okq (⟨"MownWordsModel", "findOdds", "(II)V"⟩, 27) := ⟨⟨by decide +kernel, by decide +kernel⟩, List.mem_of_getElem? (i := 689) (by decide +kernel), List.mem_of_getElem? (i := 1008) (by decide +kernel), List.mem_of_getElem? (i := 1009) (by decide +kernel)⟩
theorem lw_p37 : lw_okq (⟨"MownWordsModel", "areLike", "(II)Z"⟩, 27) := ⟨⟨by decide +kernel, by decide +kernel⟩, List.mem_of_getElem? (i := 689) (by decide +kernel), List.mem_of_getElem? (i := 1030) (by decide +kernel), List.mem_of_getElem? (i := 1031) (by decide +kernel)⟩
theorem lw_p38 : lw_okq (⟨"MownWordsModel", "isIn", "(III)Z"⟩, 27) := ⟨⟨by decide +kernel, by decide +kernel⟩, List.mem_of_getElem? (i := 689) (by decide +kernel), List.mem_of_getElem? (i := 1034) (by decide +kernel), List.mem_of_getElem? (i := 1035) (by decide +kernel)⟩
theorem lw_p39 : lw_okq (⟨"MownWordsModel", "carried", "(IIZ)I"⟩, 27) := ⟨⟨by decide +kernel, by decide +kernel⟩, List.mem_of_getElem? (i := 689) (by decide +kernel), List.mem_of_getElem? (i := 1042) (by decide +kernel), List.mem_of_getElem? (i := 1043) (by decide +kernel)⟩
theorem lw_p40 : lw_okq (⟨"MownWordsModel", "lacksRow", "(IIII)I"⟩, 27) := ⟨⟨by decide +kernel, by decide +kernel⟩, List.mem_of_getElem? (i := 689) (by decide +kernel), List.mem_of_getElem? (i := 1066) (by decide +kernel), List.mem_of_getElem? (i := 1067) (by decide +kernel)⟩
def lw_privs_3 : List (MethodName × Nat) := [(⟨"MownWordsModel", "lostBy", "(II)I"⟩, 27), (⟨"MownWordsModel", "lostOn", "(II)I"⟩, 27), (⟨"MownWordsModel", "findRow", "()V"⟩, 27), (⟨"MownWordsModel", "tellRow", "(I)I"⟩, 27), (⟨"MownWordsModel", "findOdds", "(II)V"⟩, 27), (⟨"MownWordsModel", "areLike", "(II)Z"⟩, 27), (⟨"MownWordsModel", "isIn", "(III)Z"⟩, 27), (⟨"MownWordsModel", "carried", "(IIZ)I"⟩, 27), (⟨"MownWordsModel", "lacksRow", "(IIII)I"⟩, 27)]
theorem lw_r3 : ∀ q ∈ lw_privs_3, lw_okq q := List.forall_mem_cons.mpr ⟨lw_p32, List.forall_mem_cons.mpr ⟨lw_p33, List.forall_mem_cons.mpr ⟨lw_p34, List.forall_mem_cons.mpr ⟨lw_p35, List.forall_mem_cons.mpr ⟨lw_p36, List.forall_mem_cons.mpr ⟨lw_p37, List.forall_mem_cons.mpr ⟨lw_p38, List.forall_mem_cons.mpr ⟨lw_p39, List.forall_mem_cons.mpr ⟨lw_p40, fun _ h => absurd h List.not_mem_nil⟩⟩⟩⟩⟩⟩⟩⟩⟩
def lw_privs : List (MethodName × Nat) := lw_privs_1 ++ (lw_privs_2 ++ (lw_privs_3))
def lw_tbl : List Cond := k2_sels lw_privs ++ tables_1
theorem lw_privs_ok : ∀ q ∈ lw_privs, lw_okq q := by
  show ∀ q ∈ lw_privs_1 ++ (lw_privs_2 ++ (lw_privs_3)), lw_okq q
  exact List.forall_mem_append.mpr ⟨lw_r1, List.forall_mem_append.mpr ⟨lw_r2, lw_r3⟩⟩
end
section
def RX0 : String := "MownWords$Meadow"
def TX0 : u_T := fun k => match k with
  | 0 => ("MownWords$Meadow", "settings", "[I", true)
  | 1 => ("MownWords$Meadow", "strips", "[LMownWords$Strip;", true)
  | 2 => ("MownWords$Meadow", "stripCount", "I", false)
  | 3 => ("MownWords$Meadow", "words", "[LMownWords$Word;", true)
  | 4 => ("MownWords$Meadow", "wordCount", "I", false)
  | 5 => ("MownWords$Meadow", "foes", "[I", true)
  | _ => ("MownWords$Meadow", "hays", "[I", true)
def tyX0 : Nat → FieldType := fun k => match k with
  | 0 => .array .int
  | 1 => .array (.object "MownWords$Strip")
  | 2 => .int
  | 3 => .array (.object "MownWords$Word")
  | 4 => .int
  | 5 => .array .int
  | _ => .array .int
abbrev wsX00 : List Cond := u_ws RX0 TX0 7
theorem nmX0 : ∀ a, a < 7 → ∀ b, b < 7 → a ≠ b → (TX0 a).2.1 ≠ (TX0 b).2.1 := by decide +kernel
theorem tyX0_ok : ∀ k, k < 7 → parseFieldDescriptor (TX0 k).2.2.1 = some (tyX0 k) := by decide +kernel
abbrev cX0_init : ByteArray := prog_2_method_1_code
def yX0_init : MethodName := ⟨RX0, "<init>", "()V"⟩
abbrev cX0_copyFrom : ByteArray := prog_2_method_2_code
def yX0_copyFrom : MethodName := ⟨RX0, "copyFrom", "(LMownWords$Meadow;)V"⟩
abbrev cX0_addStrip : ByteArray := prog_2_method_3_code
def yX0_addStrip : MethodName := ⟨RX0, "addStrip", "(I)V"⟩
abbrev cX0_replaceStrips : ByteArray := prog_2_method_4_code
def yX0_replaceStrips : MethodName := ⟨RX0, "replaceStrips", "([II)V"⟩
abbrev cX0_addWord : ByteArray := prog_2_method_5_code
def yX0_addWord : MethodName := ⟨RX0, "addWord", "(LMownWords$Word;)V"⟩
abbrev cX0_setFoe : ByteArray := prog_2_method_6_code
def yX0_setFoe : MethodName := ⟨RX0, "setFoe", "(IIZ)V"⟩
abbrev cX0_feudCount : ByteArray := prog_2_method_7_code
def yX0_feudCount : MethodName := ⟨RX0, "feudCount", "()I"⟩
abbrev cX0_allHay : ByteArray := prog_2_method_8_code
def yX0_allHay : MethodName := ⟨RX0, "allHay", "()I"⟩
abbrev cX0_growFor : ByteArray := prog_2_method_9_code
def yX0_growFor : MethodName := ⟨RX0, "growFor", "(I)I"⟩
abbrev cX0_harvest : ByteArray := prog_2_method_10_code
def yX0_harvest : MethodName := ⟨RX0, "harvest", "(II)I"⟩
abbrev cX0_seenCells : ByteArray := prog_2_method_11_code
def yX0_seenCells : MethodName := ⟨RX0, "seenCells", "(I)I"⟩
abbrev cX0_letterOn : ByteArray := prog_2_method_12_code
def yX0_letterOn : MethodName := ⟨RX0, "letterOn", "(I)I"⟩
abbrev cX0_letterSeenAs : ByteArray := prog_2_method_13_code
def yX0_letterSeenAs : MethodName := ⟨RX0, "letterSeenAs", "(I)I"⟩
abbrev cX0_hasRoom : ByteArray := prog_2_method_14_code
def yX0_hasRoom : MethodName := ⟨RX0, "hasRoom", "(LMownWords$Word;I)Z"⟩
abbrev cX0_isWritten : ByteArray := prog_2_method_15_code
def yX0_isWritten : MethodName := ⟨RX0, "isWritten", "(LMownWords$Word;II)Z"⟩
abbrev cX0_cellsOff : ByteArray := prog_2_method_16_code
def yX0_cellsOff : MethodName := ⟨RX0, "cellsOff", "(LMownWords$Word;I)I"⟩
abbrev cX0_isAllowed : ByteArray := prog_2_method_17_code
def yX0_isAllowed : MethodName := ⟨RX0, "isAllowed", "(LMownWords$Word;I)Z"⟩
abbrev cX0_hasFeud : ByteArray := prog_2_method_18_code
def yX0_hasFeud : MethodName := ⟨RX0, "hasFeud", "(LMownWords$Word;I)Z"⟩
abbrev cX0_wouldRead : ByteArray := prog_2_method_19_code
def yX0_wouldRead : MethodName := ⟨RX0, "wouldRead", "(II)Z"⟩
abbrev cX0_lossBy : ByteArray := prog_2_method_20_code
def yX0_lossBy : MethodName := ⟨RX0, "lossBy", "(LMownWords$Word;I)I"⟩
abbrev cX0_lossOn : ByteArray := prog_2_method_21_code
def yX0_lossOn : MethodName := ⟨RX0, "lossOn", "(II)I"⟩
abbrev cX0_shareOf : ByteArray := prog_2_method_22_code
def yX0_shareOf : MethodName := ⟨RX0, "shareOf", "(LMownWords$Word;III)I"⟩
abbrev cX0_isOwnForm : ByteArray := prog_2_method_23_code
def yX0_isOwnForm : MethodName := ⟨RX0, "isOwnForm", "(LMownWords$Word;I)Z"⟩
def RX1 : String := "MownWords$Odds"
def TX1 : u_T := fun k => match k with
  | 0 => ("MownWords$Odds", "closestKeys", "[I", false)
  | 1 => ("MownWords$Odds", "tallies", "[LMownWords$Tally;", true)
  | _ => ("MownWords$Odds", "weights", "[J", true)
def tyX1 : Nat → FieldType := fun k => match k with
  | 0 => .array .int
  | 1 => .array (.object "MownWords$Tally")
  | _ => .array .long
abbrev wsX10 : List Cond := u_ws RX1 TX1 3
theorem nmX1 : ∀ a, a < 3 → ∀ b, b < 3 → a ≠ b → (TX1 a).2.1 ≠ (TX1 b).2.1 := by decide +kernel
theorem tyX1_ok : ∀ k, k < 3 → parseFieldDescriptor (TX1 k).2.2.1 = some (tyX1 k) := by decide +kernel
abbrev cX1_init : ByteArray := prog_3_method_1_code
def yX1_init : MethodName := ⟨RX1, "<init>", "()V"⟩
abbrev cX1_surenessOf : ByteArray := prog_3_method_2_code
def yX1_surenessOf : MethodName := ⟨RX1, "surenessOf", "(III)I"⟩
abbrev cX1_mistakeFor : ByteArray := prog_3_method_3_code
def yX1_mistakeFor : MethodName := ⟨RX1, "mistakeFor", "(III)I"⟩
abbrev cX1_weigh : ByteArray := prog_3_method_4_code
def yX1_weigh : MethodName := ⟨RX1, "weigh", "(I)V"⟩
abbrev cX1_tallyOf : ByteArray := prog_3_method_5_code
def yX1_tallyOf : MethodName := ⟨RX1, "tallyOf", "(I)LMownWords$Tally;"⟩
abbrev cX1_newClosestKeys : ByteArray := prog_3_method_6_code
def yX1_newClosestKeys : MethodName := ⟨RX1, "newClosestKeys", "()[I"⟩
abbrev cX1_passOver : ByteArray := prog_3_method_7_code
def yX1_passOver : MethodName := ⟨RX1, "passOver", "([II)V"⟩
def RX2 : String := "MownWords$Row"
def TX2 : u_T := fun k => match k with
  | 0 => ("MownWords$Row", "worths", "[[I", true)
  | 1 => ("MownWords$Row", "most", "[I", true)
  | 2 => ("MownWords$Row", "chosen", "[I", true)
  | _ => ("MownWords$Row", "length", "I", false)
def tyX2 : Nat → FieldType := fun k => match k with
  | 0 => .array (.array .int)
  | 1 => .array .int
  | 2 => .array .int
  | _ => .int
abbrev wsX20 : List Cond := u_ws RX2 TX2 4
theorem nmX2 : ∀ a, a < 4 → ∀ b, b < 4 → a ≠ b → (TX2 a).2.1 ≠ (TX2 b).2.1 := by decide +kernel
theorem tyX2_ok : ∀ k, k < 4 → parseFieldDescriptor (TX2 k).2.2.1 = some (tyX2 k) := by decide +kernel
abbrev cX2_init : ByteArray := prog_4_method_1_code
def yX2_init : MethodName := ⟨RX2, "<init>", "()V"⟩
abbrev cX2_weighWritten : ByteArray := prog_4_method_2_code
def yX2_weighWritten : MethodName := ⟨RX2, "weighWritten", "(LMownWords$Meadow;)V"⟩
abbrev cX2_weighAllowed : ByteArray := prog_4_method_3_code
def yX2_weighAllowed : MethodName := ⟨RX2, "weighAllowed", "(LMownWords$Meadow;)V"⟩
abbrev cX2_choose : ByteArray := prog_4_method_4_code
def yX2_choose : MethodName := ⟨RX2, "choose", "(LMownWords$Meadow;)V"⟩
abbrev cX2_answer : ByteArray := prog_4_method_5_code
def yX2_answer : MethodName := ⟨RX2, "answer", "(I)I"⟩
abbrev cX2_sumUp : ByteArray := prog_4_method_6_code
def yX2_sumUp : MethodName := ⟨RX2, "sumUp", "(LMownWords$Meadow;)V"⟩
abbrev cX2_mostBy : ByteArray := prog_4_method_7_code
def yX2_mostBy : MethodName := ⟨RX2, "mostBy", "(LMownWords$Meadow;II)I"⟩
abbrev cX2_firstForMost : ByteArray := prog_4_method_8_code
def yX2_firstForMost : MethodName := ⟨RX2, "firstForMost", "(LMownWords$Meadow;I)I"⟩
def RX3 : String := "MownWords$Sheet"
def TX3 : u_T := fun k => match k with
  | 0 => ("MownWords$Sheet", "lane", "I", false)
  | 1 => ("MownWords$Sheet", "length", "I", false)
  | _ => ("MownWords$Sheet", "items", "[I", true)
def tyX3 : Nat → FieldType := fun k => match k with
  | 0 => .int
  | 1 => .int
  | _ => .array .int
abbrev wsX30 : List Cond := u_ws RX3 TX3 3
theorem nmX3 : ∀ a, a < 3 → ∀ b, b < 3 → a ≠ b → (TX3 a).2.1 ≠ (TX3 b).2.1 := by decide +kernel
theorem tyX3_ok : ∀ k, k < 3 → parseFieldDescriptor (TX3 k).2.2.1 = some (tyX3 k) := by decide +kernel
abbrev cX3_init : ByteArray := prog_5_method_1_code
def yX3_init : MethodName := ⟨RX3, "<init>", "()V"⟩
abbrev cX3_begin : ByteArray := prog_5_method_2_code
def yX3_begin : MethodName := ⟨RX3, "begin", "(II)V"⟩
abbrev cX3_refusal : ByteArray := prog_5_method_3_code
def yX3_refusal : MethodName := ⟨RX3, "refusal", "(III)I"⟩
abbrev cX3_holdsGrass : ByteArray := prog_5_method_4_code
def yX3_holdsGrass : MethodName := ⟨RX3, "holdsGrass", "(I)Z"⟩
abbrev cX3_put : ByteArray := prog_5_method_5_code
def yX3_put : MethodName := ⟨RX3, "put", "(II)V"⟩
def RX4 : String := "MownWords$Strip"
def TX4 : u_T := fun k => match k with
  | 0 => ("MownWords$Strip", "owner", "I", false)
  | _ => ("MownWords$Strip", "blades", "[I", true)
def tyX4 : Nat → FieldType := fun k => match k with
  | 0 => .int
  | _ => .array .int
abbrev wsX40 : List Cond := u_ws RX4 TX4 2
theorem nmX4 : ∀ a, a < 2 → ∀ b, b < 2 → a ≠ b → (TX4 a).2.1 ≠ (TX4 b).2.1 := by decide +kernel
theorem tyX4_ok : ∀ k, k < 2 → parseFieldDescriptor (TX4 k).2.2.1 = some (tyX4 k) := by decide +kernel
abbrev cX4_init : ByteArray := prog_6_method_1_code
def yX4_init : MethodName := ⟨RX4, "<init>", "()V"⟩
abbrev cX4_begin : ByteArray := prog_6_method_2_code
def yX4_begin : MethodName := ⟨RX4, "begin", "(I)V"⟩
abbrev cX4_copyFrom : ByteArray := prog_6_method_3_code
def yX4_copyFrom : MethodName := ⟨RX4, "copyFrom", "(LMownWords$Strip;)V"⟩
abbrev cX4_cellsUpTo : ByteArray := prog_6_method_4_code
def yX4_cellsUpTo : MethodName := ⟨RX4, "cellsUpTo", "(I)I"⟩
abbrev cX4_grownCells : ByteArray := prog_6_method_5_code
def yX4_grownCells : MethodName := ⟨RX4, "grownCells", "()I"⟩
abbrev cX4_hasGrown : ByteArray := prog_6_method_6_code
def yX4_hasGrown : MethodName := ⟨RX4, "hasGrown", "(I)Z"⟩
abbrev cX4_grassOf : ByteArray := prog_6_method_7_code
def yX4_grassOf : MethodName := ⟨RX4, "grassOf", "(I)I"⟩
abbrev cX4_cutDown : ByteArray := prog_6_method_8_code
def yX4_cutDown : MethodName := ⟨RX4, "cutDown", "(I)V"⟩
abbrev cX4_growBy : ByteArray := prog_6_method_9_code
def yX4_growBy : MethodName := ⟨RX4, "growBy", "(I)I"⟩
abbrev cX4_sowFrom : ByteArray := prog_6_method_10_code
def yX4_sowFrom : MethodName := ⟨RX4, "sowFrom", "([II)I"⟩
def RX5 : String := "MownWords$Tally"
def TX5 : u_T := fun k => match k with
  | _ => ("MownWords$Tally", "ways", "[I", true)
def tyX5 : Nat → FieldType := fun k => match k with
  | _ => .array .int
abbrev wsX50 : List Cond := u_ws RX5 TX5 1
theorem nmX5 : ∀ a, a < 1 → ∀ b, b < 1 → a ≠ b → (TX5 a).2.1 ≠ (TX5 b).2.1 := by decide +kernel
theorem tyX5_ok : ∀ k, k < 1 → parseFieldDescriptor (TX5 k).2.2.1 = some (tyX5 k) := by decide +kernel
abbrev cX5_init : ByteArray := prog_7_method_1_code
def yX5_init : MethodName := ⟨RX5, "<init>", "(I[I)V"⟩
abbrev cX5_oddsToRead : ByteArray := prog_7_method_2_code
def yX5_oddsToRead : MethodName := ⟨RX5, "oddsToRead", "(II[J)J"⟩
def RX6 : String := "MownWords$Tape"
def TX6 : u_T := fun k => match k with
  | 0 => ("MownWords$Tape", "bytes", "[B", true)
  | 1 => ("MownWords$Tape", "length", "I", false)
  | 2 => ("MownWords$Tape", "owners", "[I", true)
  | 3 => ("MownWords$Tape", "toldWords", "[LMownWords$Word;", true)
  | _ => ("MownWords$Tape", "at", "I", false)
def tyX6 : Nat → FieldType := fun k => match k with
  | 0 => .array .byte
  | 1 => .int
  | 2 => .array .int
  | 3 => .array (.object "MownWords$Word")
  | _ => .int
abbrev wsX60 : List Cond := u_ws RX6 TX6 5
theorem nmX6 : ∀ a, a < 5 → ∀ b, b < 5 → a ≠ b → (TX6 a).2.1 ≠ (TX6 b).2.1 := by decide +kernel
theorem tyX6_ok : ∀ k, k < 5 → parseFieldDescriptor (TX6 k).2.2.1 = some (tyX6 k) := by decide +kernel
abbrev cX6_init : ByteArray := prog_8_method_1_code
def yX6_init : MethodName := ⟨RX6, "<init>", "()V"⟩
abbrev cX6_append : ByteArray := prog_8_method_2_code
def yX6_append : MethodName := ⟨RX6, "append", "(JI)I"⟩
abbrev cX6_readOwners : ByteArray := prog_8_method_3_code
def yX6_readOwners : MethodName := ⟨RX6, "readOwners", "()I"⟩
abbrev cX6_readWords : ByteArray := prog_8_method_4_code
def yX6_readWords : MethodName := ⟨RX6, "readWords", "()I"⟩
abbrev cX6_readWord : ByteArray := prog_8_method_5_code
def yX6_readWord : MethodName := ⟨RX6, "readWord", "(LMownWords$Word;)I"⟩
abbrev cX6_readPay : ByteArray := prog_8_method_6_code
def yX6_readPay : MethodName := ⟨RX6, "readPay", "(LMownWords$Word;)I"⟩
abbrev cX6_isFigure : ByteArray := prog_8_method_7_code
def yX6_isFigure : MethodName := ⟨RX6, "isFigure", "(I)Z"⟩
abbrev cX6_faultAt : ByteArray := prog_8_method_8_code
def yX6_faultAt : MethodName := ⟨RX6, "faultAt", "(I)I"⟩
abbrev cX6_nextSign : ByteArray := prog_8_method_9_code
def yX6_nextSign : MethodName := ⟨RX6, "nextSign", "()I"⟩
def RX7 : String := "MownWords$Word"
def TX7 : u_T := fun k => match k with
  | 0 => ("MownWords$Word", "length", "I", false)
  | 1 => ("MownWords$Word", "wage", "I", false)
  | _ => ("MownWords$Word", "letters", "[I", true)
def tyX7 : Nat → FieldType := fun k => match k with
  | 0 => .int
  | 1 => .int
  | _ => .array .int
abbrev wsX70 : List Cond := u_ws RX7 TX7 3
theorem nmX7 : ∀ a, a < 3 → ∀ b, b < 3 → a ≠ b → (TX7 a).2.1 ≠ (TX7 b).2.1 := by decide +kernel
theorem tyX7_ok : ∀ k, k < 3 → parseFieldDescriptor (TX7 k).2.2.1 = some (tyX7 k) := by decide +kernel
abbrev cX7_init : ByteArray := prog_9_method_1_code
def yX7_init : MethodName := ⟨RX7, "<init>", "()V"⟩
abbrev cX7_copyFrom : ByteArray := prog_9_method_2_code
def yX7_copyFrom : MethodName := ⟨RX7, "copyFrom", "(LMownWords$Word;)V"⟩
abbrev cX7_isLike : ByteArray := prog_9_method_3_code
def yX7_isLike : MethodName := ⟨RX7, "isLike", "(LMownWords$Word;)Z"⟩
abbrev cX7_hasFormIn : ByteArray := prog_9_method_4_code
def yX7_hasFormIn : MethodName := ⟨RX7, "hasFormIn", "(ILMownWords$Word;)Z"⟩
abbrev cX7_placeBehind : ByteArray := prog_9_method_5_code
def yX7_placeBehind : MethodName := ⟨RX7, "placeBehind", "(II)I"⟩
def RX8 : String := "MownWords"
def TX8 : u_T := fun k => match k with
  | 0 => ("MownWords", "meadow", "LMownWords$Meadow;", true)
  | 1 => ("MownWords", "kept", "LMownWords$Meadow;", true)
  | 2 => ("MownWords", "isKept", "Z", false)
  | 3 => ("MownWords", "row", "LMownWords$Row;", true)
  | 4 => ("MownWords", "odds", "LMownWords$Odds;", true)
  | 5 => ("MownWords", "tape", "LMownWords$Tape;", true)
  | _ => ("MownWords", "sheets", "[LMownWords$Sheet;", true)
def tyX8 : Nat → FieldType := fun k => match k with
  | 0 => .object "MownWords$Meadow"
  | 1 => .object "MownWords$Meadow"
  | 2 => .boolean
  | 3 => .object "MownWords$Row"
  | 4 => .object "MownWords$Odds"
  | 5 => .object "MownWords$Tape"
  | _ => .array (.object "MownWords$Sheet")
abbrev wsX80 : List Cond := u_ws RX8 TX8 7
theorem nmX8 : ∀ a, a < 7 → ∀ b, b < 7 → a ≠ b → (TX8 a).2.1 ≠ (TX8 b).2.1 := by decide +kernel
theorem tyX8_ok : ∀ k, k < 7 → parseFieldDescriptor (TX8 k).2.2.1 = some (tyX8 k) := by decide +kernel
abbrev cX8_init : ByteArray := prog_1_method_1_code
def yX8_init : MethodName := ⟨RX8, "<init>", "()V"⟩
abbrev cX8_strip : ByteArray := prog_1_method_2_code
def yX8_strip : MethodName := ⟨RX8, "strip", "(I)I"⟩
abbrev cX8_set : ByteArray := prog_1_method_3_code
def yX8_set : MethodName := ⟨RX8, "set", "(II)I"⟩
abbrev cX8_grass : ByteArray := prog_1_method_4_code
def yX8_grass : MethodName := ⟨RX8, "grass", "(II)I"⟩
abbrev cX8_letter : ByteArray := prog_1_method_5_code
def yX8_letter : MethodName := ⟨RX8, "letter", "(I)I"⟩
abbrev cX8_seen : ByteArray := prog_1_method_6_code
def yX8_seen : MethodName := ⟨RX8, "seen", "(I)I"⟩
abbrev cX8_reads : ByteArray := prog_1_method_7_code
def yX8_reads : MethodName := ⟨RX8, "reads", "(I)I"⟩
abbrev cX8_off : ByteArray := prog_1_method_8_code
def yX8_off : MethodName := ⟨RX8, "off", "(I)I"⟩
abbrev cX8_mow : ByteArray := prog_1_method_9_code
def yX8_mow : MethodName := ⟨RX8, "mow", "(II)I"⟩
abbrev cX8_cut : ByteArray := prog_1_method_10_code
def yX8_cut : MethodName := ⟨RX8, "cut", "(I)I"⟩
abbrev cX8_fault : ByteArray := prog_1_method_11_code
def yX8_fault : MethodName := ⟨RX8, "fault", "(III)I"⟩
abbrev cX8_weeks : ByteArray := prog_1_method_12_code
def yX8_weeks : MethodName := ⟨RX8, "weeks", "(I)I"⟩
abbrev cX8_hay : ByteArray := prog_1_method_13_code
def yX8_hay : MethodName := ⟨RX8, "hay", "(I)I"⟩
abbrev cX8_type : ByteArray := prog_1_method_14_code
def yX8_type : MethodName := ⟨RX8, "type", "(JI)I"⟩
abbrev cX8_strips : ByteArray := prog_1_method_15_code
def yX8_strips : MethodName := ⟨RX8, "strips", "()I"⟩
abbrev cX8_words : ByteArray := prog_1_method_16_code
def yX8_words : MethodName := ⟨RX8, "words", "()I"⟩
abbrev cX8_told : ByteArray := prog_1_method_17_code
def yX8_told : MethodName := ⟨RX8, "told", "(II)I"⟩
abbrev cX8_pay : ByteArray := prog_1_method_18_code
def yX8_pay : MethodName := ⟨RX8, "pay", "(II)I"⟩
abbrev cX8_feud : ByteArray := prog_1_method_19_code
def yX8_feud : MethodName := ⟨RX8, "feud", "(IIZ)I"⟩
abbrev cX8_count : ByteArray := prog_1_method_20_code
def yX8_count : MethodName := ⟨RX8, "count", "(I)I"⟩
abbrev cX8_written : ByteArray := prog_1_method_21_code
def yX8_written : MethodName := ⟨RX8, "written", "(II)I"⟩
abbrev cX8_read : ByteArray := prog_1_method_22_code
def yX8_read : MethodName := ⟨RX8, "read", "(I)I"⟩
abbrev cX8_nearest : ByteArray := prog_1_method_23_code
def yX8_nearest : MethodName := ⟨RX8, "nearest", "(II)I"⟩
abbrev cX8_may : ByteArray := prog_1_method_24_code
def yX8_may : MethodName := ⟨RX8, "may", "(II)I"⟩
abbrev cX8_lost : ByteArray := prog_1_method_25_code
def yX8_lost : MethodName := ⟨RX8, "lost", "(II)I"⟩
abbrev cX8_plan : ByteArray := prog_1_method_26_code
def yX8_plan : MethodName := ⟨RX8, "plan", "(I)I"⟩
abbrev cX8_write : ByteArray := prog_1_method_27_code
def yX8_write : MethodName := ⟨RX8, "write", "(II)I"⟩
abbrev cX8_share : ByteArray := prog_1_method_28_code
def yX8_share : MethodName := ⟨RX8, "share", "(III)I"⟩
abbrev cX8_sure : ByteArray := prog_1_method_29_code
def yX8_sure : MethodName := ⟨RX8, "sure", "(II)I"⟩
abbrev cX8_taken : ByteArray := prog_1_method_30_code
def yX8_taken : MethodName := ⟨RX8, "taken", "(II)I"⟩
abbrev cX8_fades : ByteArray := prog_1_method_31_code
def yX8_fades : MethodName := ⟨RX8, "fades", "(II)I"⟩
abbrev cX8_brief : ByteArray := prog_1_method_32_code
def yX8_brief : MethodName := ⟨RX8, "brief", "(I)I"⟩
abbrev cX8_image : ByteArray := prog_1_method_33_code
def yX8_image : MethodName := ⟨RX8, "image", "()I"⟩
abbrev cX8_restore : ByteArray := prog_1_method_34_code
def yX8_restore : MethodName := ⟨RX8, "restore", "()I"⟩
abbrev cX8_sow : ByteArray := prog_1_method_35_code
def yX8_sow : MethodName := ⟨RX8, "sow", "(IIII)I"⟩
abbrev cX8_sheet : ByteArray := prog_1_method_36_code
def yX8_sheet : MethodName := ⟨RX8, "sheet", "(III)I"⟩
abbrev cX8_drop : ByteArray := prog_1_method_37_code
def yX8_drop : MethodName := ⟨RX8, "drop", "(I)I"⟩
abbrev cX8_item : ByteArray := prog_1_method_38_code
def yX8_item : MethodName := ⟨RX8, "item", "(IIII)I"⟩
abbrev cX8_film : ByteArray := prog_1_method_39_code
def yX8_film : MethodName := ⟨RX8, "film", "(III)I"⟩
abbrev cX8_isBelow : ByteArray := prog_1_method_40_code
def yX8_isBelow : MethodName := ⟨RX8, "isBelow", "(II)Z"⟩
abbrev cX8_isStrip : ByteArray := prog_1_method_41_code
def yX8_isStrip : MethodName := ⟨RX8, "isStrip", "(I)Z"⟩
abbrev cX8_isWord : ByteArray := prog_1_method_42_code
def yX8_isWord : MethodName := ⟨RX8, "isWord", "(I)Z"⟩
abbrev cX8_isRowPlace : ByteArray := prog_1_method_43_code
def yX8_isRowPlace : MethodName := ⟨RX8, "isRowPlace", "(I)Z"⟩
abbrev cX8_isSheet : ByteArray := prog_1_method_44_code
def yX8_isSheet : MethodName := ⟨RX8, "isSheet", "(II)Z"⟩
abbrev cX8_closestKey : ByteArray := prog_1_method_45_code
def yX8_closestKey : MethodName := ⟨RX8, "closestKey", "(I)I"⟩
def RX9 : String := "MownWordsModel"
def TX9 : u_T := fun k => match k with
  | 0 => ("MownWordsModel", "forms", "[I", true)
  | 1 => ("MownWordsModel", "owners", "[I", true)
  | 2 => ("MownWordsModel", "grass", "[I", true)
  | 3 => ("MownWordsModel", "hays", "[I", true)
  | 4 => ("MownWordsModel", "sets", "[I", true)
  | 5 => ("MownWordsModel", "feuds", "[I", true)
  | 6 => ("MownWordsModel", "words", "[I", true)
  | 7 => ("MownWordsModel", "strips", "I", false)
  | 8 => ("MownWordsModel", "many", "I", false)
  | 9 => ("MownWordsModel", "tape", "[I", true)
  | 10 => ("MownWordsModel", "taped", "I", false)
  | 11 => ("MownWordsModel", "place", "I", false)
  | 12 => ("MownWordsModel", "reads", "I", false)
  | 13 => ("MownWordsModel", "read", "[I", true)
  | 14 => ("MownWordsModel", "best", "[I", true)
  | 15 => ("MownWordsModel", "row", "[I", true)
  | 16 => ("MownWordsModel", "rowSize", "I", false)
  | 17 => ("MownWordsModel", "lies", "[I", true)
  | 18 => ("MownWordsModel", "worths", "[I", true)
  | 19 => ("MownWordsModel", "odds", "[J", true)
  | 20 => ("MownWordsModel", "had", "[I", true)
  | 21 => ("MownWordsModel", "isKept", "Z", false)
  | 22 => ("MownWordsModel", "kept", "[I", true)
  | 23 => ("MownWordsModel", "keptMany", "[I", true)
  | 24 => ("MownWordsModel", "lanes", "[I", true)
  | 25 => ("MownWordsModel", "rowSizes", "[I", true)
  | _ => ("MownWordsModel", "items", "[I", true)
def tyX9 : Nat → FieldType := fun k => match k with
  | 0 => .array .int
  | 1 => .array .int
  | 2 => .array .int
  | 3 => .array .int
  | 4 => .array .int
  | 5 => .array .int
  | 6 => .array .int
  | 7 => .int
  | 8 => .int
  | 9 => .array .int
  | 10 => .int
  | 11 => .int
  | 12 => .int
  | 13 => .array .int
  | 14 => .array .int
  | 15 => .array .int
  | 16 => .int
  | 17 => .array .int
  | 18 => .array .int
  | 19 => .array .long
  | 20 => .array .int
  | 21 => .boolean
  | 22 => .array .int
  | 23 => .array .int
  | 24 => .array .int
  | 25 => .array .int
  | _ => .array .int
abbrev wsX90 : List Cond := u_ws RX9 TX9 27
theorem nmX9 : ∀ a, a < 27 → ∀ b, b < 27 → a ≠ b → (TX9 a).2.1 ≠ (TX9 b).2.1 := by decide +kernel
theorem tyX9_ok : ∀ k, k < 27 → parseFieldDescriptor (TX9 k).2.2.1 = some (tyX9 k) := by decide +kernel
abbrev cX9_init : ByteArray := prog_11_method_1_code
def yX9_init : MethodName := ⟨RX9, "<init>", "()V"⟩
abbrev cX9_in : ByteArray := prog_11_method_2_code
def yX9_in : MethodName := ⟨RX9, "in", "(JJJ)Z"⟩
abbrev cX9_has : ByteArray := prog_11_method_3_code
def yX9_has : MethodName := ⟨RX9, "has", "(II)Z"⟩
abbrev cX9_ones : ByteArray := prog_11_method_4_code
def yX9_ones : MethodName := ⟨RX9, "ones", "(I)I"⟩
abbrev cX9_isStrip : ByteArray := prog_11_method_5_code
def yX9_isStrip : MethodName := ⟨RX9, "isStrip", "(I)Z"⟩
abbrev cX9_isCell : ByteArray := prog_11_method_6_code
def yX9_isCell : MethodName := ⟨RX9, "isCell", "(I)Z"⟩
abbrev cX9_isLetter : ByteArray := prog_11_method_7_code
def yX9_isLetter : MethodName := ⟨RX9, "isLetter", "(I)Z"⟩
abbrev cX9_isWord : ByteArray := prog_11_method_8_code
def yX9_isWord : MethodName := ⟨RX9, "isWord", "(I)Z"⟩
abbrev cX9_addStrip : ByteArray := prog_11_method_9_code
def yX9_addStrip : MethodName := ⟨RX9, "addStrip", "(I)V"⟩
abbrev cX9_strip : ByteArray := prog_11_method_10_code
def yX9_strip : MethodName := ⟨RX9, "strip", "(I)I"⟩
abbrev cX9_set : ByteArray := prog_11_method_11_code
def yX9_set : MethodName := ⟨RX9, "set", "(II)I"⟩
abbrev cX9_grass : ByteArray := prog_11_method_12_code
def yX9_grass : MethodName := ⟨RX9, "grass", "(II)I"⟩
abbrev cX9_letter : ByteArray := prog_11_method_13_code
def yX9_letter : MethodName := ⟨RX9, "letter", "(I)I"⟩
abbrev cX9_seenOf : ByteArray := prog_11_method_14_code
def yX9_seenOf : MethodName := ⟨RX9, "seenOf", "(I)I"⟩
abbrev cX9_seen : ByteArray := prog_11_method_15_code
def yX9_seen : MethodName := ⟨RX9, "seen", "(I)I"⟩
abbrev cX9_nearestForm : ByteArray := prog_11_method_16_code
def yX9_nearestForm : MethodName := ⟨RX9, "nearestForm", "(I)I"⟩
abbrev cX9_readsAs : ByteArray := prog_11_method_17_code
def yX9_readsAs : MethodName := ⟨RX9, "readsAs", "(I)I"⟩
abbrev cX9_reads : ByteArray := prog_11_method_18_code
def yX9_reads : MethodName := ⟨RX9, "reads", "(I)I"⟩
abbrev cX9_off : ByteArray := prog_11_method_19_code
def yX9_off : MethodName := ⟨RX9, "off", "(I)I"⟩
abbrev cX9_hasGrown : ByteArray := prog_11_method_20_code
def yX9_hasGrown : MethodName := ⟨RX9, "hasGrown", "(II)Z"⟩
abbrev cX9_mowSet : ByteArray := prog_11_method_21_code
def yX9_mowSet : MethodName := ⟨RX9, "mowSet", "(II)I"⟩
abbrev cX9_mow : ByteArray := prog_11_method_22_code
def yX9_mow : MethodName := ⟨RX9, "mow", "(II)I"⟩
abbrev cX9_cut : ByteArray := prog_11_method_23_code
def yX9_cut : MethodName := ⟨RX9, "cut", "(I)I"⟩
abbrev cX9_fault : ByteArray := prog_11_method_24_code
def yX9_fault : MethodName := ⟨RX9, "fault", "(III)I"⟩
abbrev cX9_goWeek : ByteArray := prog_11_method_25_code
def yX9_goWeek : MethodName := ⟨RX9, "goWeek", "()V"⟩
abbrev cX9_weeks : ByteArray := prog_11_method_26_code
def yX9_weeks : MethodName := ⟨RX9, "weeks", "(I)I"⟩
abbrev cX9_hay : ByteArray := prog_11_method_27_code
def yX9_hay : MethodName := ⟨RX9, "hay", "(I)I"⟩
abbrev cX9_type : ByteArray := prog_11_method_28_code
def yX9_type : MethodName := ⟨RX9, "type", "(JI)I"⟩
abbrev cX9_nextByte : ByteArray := prog_11_method_29_code
def yX9_nextByte : MethodName := ⟨RX9, "nextByte", "()I"⟩
abbrev cX9_readNumber : ByteArray := prog_11_method_30_code
def yX9_readNumber : MethodName := ⟨RX9, "readNumber", "(II)I"⟩
abbrev cX9_strips : ByteArray := prog_11_method_31_code
def yX9_strips : MethodName := ⟨RX9, "strips", "()I"⟩
abbrev cX9_readWord : ByteArray := prog_11_method_32_code
def yX9_readWord : MethodName := ⟨RX9, "readWord", "(I)Z"⟩
abbrev cX9_readWords : ByteArray := prog_11_method_33_code
def yX9_readWords : MethodName := ⟨RX9, "readWords", "()Z"⟩
abbrev cX9_words : ByteArray := prog_11_method_34_code
def yX9_words : MethodName := ⟨RX9, "words", "()I"⟩
abbrev cX9_told : ByteArray := prog_11_method_35_code
def yX9_told : MethodName := ⟨RX9, "told", "(II)I"⟩
abbrev cX9_pay : ByteArray := prog_11_method_36_code
def yX9_pay : MethodName := ⟨RX9, "pay", "(II)I"⟩
abbrev cX9_feud : ByteArray := prog_11_method_37_code
def yX9_feud : MethodName := ⟨RX9, "feud", "(IIZ)I"⟩
abbrev cX9_count : ByteArray := prog_11_method_38_code
def yX9_count : MethodName := ⟨RX9, "count", "(I)I"⟩
abbrev cX9_sizeOf : ByteArray := prog_11_method_39_code
def yX9_sizeOf : MethodName := ⟨RX9, "sizeOf", "(I)I"⟩
abbrev cX9_letterOf : ByteArray := prog_11_method_40_code
def yX9_letterOf : MethodName := ⟨RX9, "letterOf", "(II)I"⟩
abbrev cX9_hasRoom : ByteArray := prog_11_method_41_code
def yX9_hasRoom : MethodName := ⟨RX9, "hasRoom", "(II)Z"⟩
abbrev cX9_isWritten : ByteArray := prog_11_method_42_code
def yX9_isWritten : MethodName := ⟨RX9, "isWritten", "(II)Z"⟩
abbrev cX9_written : ByteArray := prog_11_method_43_code
def yX9_written : MethodName := ⟨RX9, "written", "(II)I"⟩
abbrev cX9_mayBe : ByteArray := prog_11_method_44_code
def yX9_mayBe : MethodName := ⟨RX9, "mayBe", "(II)Z"⟩
abbrev cX9_may : ByteArray := prog_11_method_45_code
def yX9_may : MethodName := ⟨RX9, "may", "(II)I"⟩
abbrev cX9_lostOn : ByteArray := prog_11_method_46_code
def yX9_lostOn : MethodName := ⟨RX9, "lostOn", "(II)I"⟩
abbrev cX9_lostBy : ByteArray := prog_11_method_47_code
def yX9_lostBy : MethodName := ⟨RX9, "lostBy", "(II)I"⟩
abbrev cX9_lost : ByteArray := prog_11_method_48_code
def yX9_lost : MethodName := ⟨RX9, "lost", "(II)I"⟩
abbrev cX9_findRow : ByteArray := prog_11_method_49_code
def yX9_findRow : MethodName := ⟨RX9, "findRow", "()V"⟩
abbrev cX9_tellRow : ByteArray := prog_11_method_50_code
def yX9_tellRow : MethodName := ⟨RX9, "tellRow", "(I)I"⟩
abbrev cX9_read : ByteArray := prog_11_method_51_code
def yX9_read : MethodName := ⟨RX9, "read", "(I)I"⟩
abbrev cX9_plan : ByteArray := prog_11_method_52_code
def yX9_plan : MethodName := ⟨RX9, "plan", "(I)I"⟩
abbrev cX9_nearest : ByteArray := prog_11_method_53_code
def yX9_nearest : MethodName := ⟨RX9, "nearest", "(II)I"⟩
abbrev cX9_write : ByteArray := prog_11_method_54_code
def yX9_write : MethodName := ⟨RX9, "write", "(II)I"⟩
abbrev cX9_share : ByteArray := prog_11_method_55_code
def yX9_share : MethodName := ⟨RX9, "share", "(III)I"⟩
abbrev cX9_power : ByteArray := prog_11_method_56_code
def yX9_power : MethodName := ⟨RX9, "power", "(II)J"⟩
abbrev cX9_findOdds : ByteArray := prog_11_method_57_code
def yX9_findOdds : MethodName := ⟨RX9, "findOdds", "(II)V"⟩
abbrev cX9_sure : ByteArray := prog_11_method_58_code
def yX9_sure : MethodName := ⟨RX9, "sure", "(II)I"⟩
abbrev cX9_taken : ByteArray := prog_11_method_59_code
def yX9_taken : MethodName := ⟨RX9, "taken", "(II)I"⟩
abbrev cX9_fades : ByteArray := prog_11_method_60_code
def yX9_fades : MethodName := ⟨RX9, "fades", "(II)I"⟩
abbrev cX9_areLike : ByteArray := prog_11_method_61_code
def yX9_areLike : MethodName := ⟨RX9, "areLike", "(II)Z"⟩
abbrev cX9_isIn : ByteArray := prog_11_method_62_code
def yX9_isIn : MethodName := ⟨RX9, "isIn", "(III)Z"⟩
abbrev cX9_brief : ByteArray := prog_11_method_63_code
def yX9_brief : MethodName := ⟨RX9, "brief", "(I)I"⟩
abbrev cX9_carried : ByteArray := prog_11_method_64_code
def yX9_carried : MethodName := ⟨RX9, "carried", "(IIZ)I"⟩
abbrev cX9_image : ByteArray := prog_11_method_65_code
def yX9_image : MethodName := ⟨RX9, "image", "()I"⟩
abbrev cX9_restore : ByteArray := prog_11_method_66_code
def yX9_restore : MethodName := ⟨RX9, "restore", "()I"⟩
abbrev cX9_isSheet : ByteArray := prog_11_method_67_code
def yX9_isSheet : MethodName := ⟨RX9, "isSheet", "(II)Z"⟩
abbrev cX9_sheet : ByteArray := prog_11_method_68_code
def yX9_sheet : MethodName := ⟨RX9, "sheet", "(III)I"⟩
abbrev cX9_drop : ByteArray := prog_11_method_69_code
def yX9_drop : MethodName := ⟨RX9, "drop", "(I)I"⟩
abbrev cX9_lacksRow : ByteArray := prog_11_method_70_code
def yX9_lacksRow : MethodName := ⟨RX9, "lacksRow", "(IIII)I"⟩
abbrev cX9_item : ByteArray := prog_11_method_71_code
def yX9_item : MethodName := ⟨RX9, "item", "(IIII)I"⟩
abbrev cX9_sow : ByteArray := prog_11_method_72_code
def yX9_sow : MethodName := ⟨RX9, "sow", "(IIII)I"⟩
abbrev cX9_film : ByteArray := prog_11_method_73_code
def yX9_film : MethodName := ⟨RX9, "film", "(III)I"⟩
def RJ6 : String := "java/lang/Integer"
def TJ6 : u_T := fun k => match k with
  | _ => ("", "", "", false)
def tyJ6 : Nat → FieldType := fun k => match k with
  | _ => .int
abbrev wsJ60 : List Cond := u_ws RJ6 TJ6 0
theorem nmJ6 : ∀ a, a < 0 → ∀ b, b < 0 → a ≠ b → (TJ6 a).2.1 ≠ (TJ6 b).2.1 := by decide +kernel
theorem tyJ6_ok : ∀ k, k < 0 → parseFieldDescriptor (TJ6 k).2.2.1 = some (tyJ6 k) := by decide +kernel
abbrev cJ6_bitCount_0f7a4 : ByteArray := prog_12_method_49_code
def yJ6_bitCount_0f7a4 : MethodName := ⟨RJ6, "bitCount", "(I)I"⟩
def RJ9 : String := "java/lang/Math"
def TJ9 : u_T := fun k => match k with
  | _ => ("", "", "", false)
def tyJ9 : Nat → FieldType := fun k => match k with
  | _ => .int
abbrev wsJ90 : List Cond := u_ws RJ9 TJ9 0
theorem nmJ9 : ∀ a, a < 0 → ∀ b, b < 0 → a ≠ b → (TJ9 a).2.1 ≠ (TJ9 b).2.1 := by decide +kernel
theorem tyJ9_ok : ∀ k, k < 0 → parseFieldDescriptor (TJ9 k).2.2.1 = some (tyJ9 k) := by decide +kernel
abbrev cJ9_max_7cf53 : ByteArray := prog_13_method_65_code
def yJ9_max_7cf53 : MethodName := ⟨RJ9, "max", "(II)I"⟩
abbrev cJ9_min_7cf53 : ByteArray := prog_13_method_69_code
def yJ9_min_7cf53 : MethodName := ⟨RJ9, "min", "(II)I"⟩
def RJ10 : String := "java/lang/System"
def TJ10 : u_T := fun k => match k with
  | _ => ("", "", "", false)
def tyJ10 : Nat → FieldType := fun k => match k with
  | _ => .int
abbrev wsJ100 : List Cond := u_ws RJ10 TJ10 0
theorem nmJ10 : ∀ a, a < 0 → ∀ b, b < 0 → a ≠ b → (TJ10 a).2.1 ≠ (TJ10 b).2.1 := by decide +kernel
theorem tyJ10_ok : ∀ k, k < 0 → parseFieldDescriptor (TJ10 k).2.2.1 = some (tyJ10 k) := by decide +kernel
def RJ7 : String := "java/util/Arrays"
def TJ7 : u_T := fun k => match k with
  | _ => ("", "", "", false)
def tyJ7 : Nat → FieldType := fun k => match k with
  | _ => .int
abbrev wsJ70 : List Cond := u_ws RJ7 TJ7 0
theorem nmJ7 : ∀ a, a < 0 → ∀ b, b < 0 → a ≠ b → (TJ7 a).2.1 ≠ (TJ7 b).2.1 := by decide +kernel
theorem tyJ7_ok : ∀ k, k < 0 → parseFieldDescriptor (TJ7 k).2.2.1 = some (tyJ7 k) := by decide +kernel
abbrev cJ7_fill_53178 : ByteArray := prog_15_method_103_code
def yJ7_fill_53178 : MethodName := ⟨RJ7, "fill", "([II)V"⟩
def RL : String := "MownWordsLaw"
abbrev cL_law : ByteArray := code
def yL_law : MethodName := ⟨RL, "law", "([I)Z"⟩
abbrev vwCl : List vw_C := [(RX0, TX0, 7), (RX1, TX1, 3), (RX2, TX2, 4), (RX3, TX3, 3), (RX4, TX4, 2), (RX5, TX5, 1), (RX6, TX6, 5), (RX7, TX7, 3), (RX8, TX8, 7), (RX9, TX9, 27)]
end
section
theorem dX0_init_0 : decode cX0_init 0 = .ok (.aload_n 0, 1) := by decide +kernel
theorem dX0_init_1 : decode cX0_init 1 = .ok (.invokespecial 3, 3) := by decide +kernel
theorem dX0_init_4 : decode cX0_init 4 = .ok (.aload_n 0, 1) := by decide +kernel
theorem dX0_init_5 : decode cX0_init 5 = .ok (.getstatic 9, 3) := by decide +kernel
theorem dX0_init_8 : decode cX0_init 8 = .ok (.arraylength, 1) := by decide +kernel
theorem dX0_init_9 : decode cX0_init 9 = .ok (.newarray .int, 2) := by decide +kernel
theorem dX0_init_11 : decode cX0_init 11 = .ok (.putfield 13, 3) := by decide +kernel
theorem dX0_init_14 : decode cX0_init 14 = .ok (.aload_n 0, 1) := by decide +kernel
theorem dX0_init_15 : decode cX0_init 15 = .ok (.bipush 9, 2) := by decide +kernel
theorem dX0_init_17 : decode cX0_init 17 = .ok (.anewarray 18, 3) := by decide +kernel
theorem dX0_init_20 : decode cX0_init 20 = .ok (.putfield 20, 3) := by decide +kernel
theorem dX0_init_23 : decode cX0_init 23 = .ok (.aload_n 0, 1) := by decide +kernel
theorem dX0_init_24 : decode cX0_init 24 = .ok (.iconst 0, 1) := by decide +kernel
theorem dX0_init_25 : decode cX0_init 25 = .ok (.putfield 24, 3) := by decide +kernel
theorem dX0_init_28 : decode cX0_init 28 = .ok (.aload_n 0, 1) := by decide +kernel
theorem dX0_init_29 : decode cX0_init 29 = .ok (.bipush 10, 2) := by decide +kernel
theorem dX0_init_31 : decode cX0_init 31 = .ok (.anewarray 28, 3) := by decide +kernel
theorem dX0_init_34 : decode cX0_init 34 = .ok (.putfield 30, 3) := by decide +kernel
theorem dX0_init_37 : decode cX0_init 37 = .ok (.aload_n 0, 1) := by decide +kernel
theorem dX0_init_38 : decode cX0_init 38 = .ok (.iconst 0, 1) := by decide +kernel
theorem dX0_init_39 : decode cX0_init 39 = .ok (.putfield 34, 3) := by decide +kernel
theorem dX0_init_42 : decode cX0_init 42 = .ok (.aload_n 0, 1) := by decide +kernel
theorem dX0_init_43 : decode cX0_init 43 = .ok (.bipush 6, 2) := by decide +kernel
theorem dX0_init_45 : decode cX0_init 45 = .ok (.newarray .int, 2) := by decide +kernel
theorem dX0_init_47 : decode cX0_init 47 = .ok (.putfield 37, 3) := by decide +kernel
theorem dX0_init_50 : decode cX0_init 50 = .ok (.aload_n 0, 1) := by decide +kernel
theorem dX0_init_51 : decode cX0_init 51 = .ok (.bipush 6, 2) := by decide +kernel
theorem dX0_init_53 : decode cX0_init 53 = .ok (.newarray .int, 2) := by decide +kernel
theorem dX0_init_55 : decode cX0_init 55 = .ok (.putfield 40, 3) := by decide +kernel
theorem dX0_init_58 : decode cX0_init 58 = .ok (.getstatic 9, 3) := by decide +kernel
theorem dX0_init_61 : decode cX0_init 61 = .ok (.iconst 0, 1) := by decide +kernel
theorem dX0_init_62 : decode cX0_init 62 = .ok (.aload_n 0, 1) := by decide +kernel
theorem dX0_init_63 : decode cX0_init 63 = .ok (.getfield 13, 3) := by decide +kernel
theorem dX0_init_66 : decode cX0_init 66 = .ok (.iconst 0, 1) := by decide +kernel
theorem dX0_init_67 : decode cX0_init 67 = .ok (.getstatic 9, 3) := by decide +kernel
theorem dX0_init_70 : decode cX0_init 70 = .ok (.arraylength, 1) := by decide +kernel
theorem dX0_init_71 : decode cX0_init 71 = .ok (.invokestatic 43, 3) := by decide +kernel
theorem dX0_init_74 : decode cX0_init 74 = .ok (.iconst 0, 1) := by decide +kernel
theorem dX0_init_75 : decode cX0_init 75 = .ok (.istore_n 1, 1) := by decide +kernel
theorem dX0_init_76 : decode cX0_init 76 = .ok (.iload_n 1, 1) := by decide +kernel
theorem dX0_init_77 : decode cX0_init 77 = .ok (.bipush 9, 2) := by decide +kernel
theorem dX0_init_79 : decode cX0_init 79 = .ok (.if_icmp .ge 22, 3) := by decide +kernel
theorem dX0_init_82 : decode cX0_init 82 = .ok (.aload_n 0, 1) := by decide +kernel
theorem dX0_init_83 : decode cX0_init 83 = .ok (.getfield 20, 3) := by decide +kernel
theorem dX0_init_86 : decode cX0_init 86 = .ok (.iload_n 1, 1) := by decide +kernel
theorem dX0_init_87 : decode cX0_init 87 = .ok (.new 18, 3) := by decide +kernel
theorem dX0_init_90 : decode cX0_init 90 = .ok (.dup, 1) := by decide +kernel
theorem dX0_init_91 : decode cX0_init 91 = .ok (.invokespecial 49, 3) := by decide +kernel
theorem dX0_init_94 : decode cX0_init 94 = .ok (.aastore, 1) := by decide +kernel
theorem dX0_init_95 : decode cX0_init 95 = .ok (.iinc 1 1, 3) := by decide +kernel
theorem dX0_init_98 : decode cX0_init 98 = .ok (.goto (-22), 3) := by decide +kernel
theorem dX0_init_101 : decode cX0_init 101 = .ok (.iconst 0, 1) := by decide +kernel
theorem dX0_init_102 : decode cX0_init 102 = .ok (.istore_n 1, 1) := by decide +kernel
theorem dX0_init_103 : decode cX0_init 103 = .ok (.iload_n 1, 1) := by decide +kernel
theorem dX0_init_104 : decode cX0_init 104 = .ok (.bipush 10, 2) := by decide +kernel
theorem dX0_init_106 : decode cX0_init 106 = .ok (.if_icmp .ge 22, 3) := by decide +kernel
theorem dX0_init_109 : decode cX0_init 109 = .ok (.aload_n 0, 1) := by decide +kernel
theorem dX0_init_110 : decode cX0_init 110 = .ok (.getfield 30, 3) := by decide +kernel
theorem dX0_init_113 : decode cX0_init 113 = .ok (.iload_n 1, 1) := by decide +kernel
theorem dX0_init_114 : decode cX0_init 114 = .ok (.new 28, 3) := by decide +kernel
theorem dX0_init_117 : decode cX0_init 117 = .ok (.dup, 1) := by decide +kernel
theorem dX0_init_118 : decode cX0_init 118 = .ok (.invokespecial 50, 3) := by decide +kernel
theorem dX0_init_121 : decode cX0_init 121 = .ok (.aastore, 1) := by decide +kernel
theorem dX0_init_122 : decode cX0_init 122 = .ok (.iinc 1 1, 3) := by decide +kernel
theorem dX0_init_125 : decode cX0_init 125 = .ok (.goto (-22), 3) := by decide +kernel
theorem dX0_init_128 : decode cX0_init 128 = .ok (.return_, 1) := by decide +kernel
theorem dX0_copyFrom_0 : decode cX0_copyFrom 0 = .ok (.aload_n 1, 1) := by decide +kernel
theorem dX0_copyFrom_1 : decode cX0_copyFrom 1 = .ok (.getfield 13, 3) := by decide +kernel
theorem dX0_copyFrom_4 : decode cX0_copyFrom 4 = .ok (.iconst 0, 1) := by decide +kernel
theorem dX0_copyFrom_5 : decode cX0_copyFrom 5 = .ok (.aload_n 0, 1) := by decide +kernel
theorem dX0_copyFrom_6 : decode cX0_copyFrom 6 = .ok (.getfield 13, 3) := by decide +kernel
theorem dX0_copyFrom_9 : decode cX0_copyFrom 9 = .ok (.iconst 0, 1) := by decide +kernel
theorem dX0_copyFrom_10 : decode cX0_copyFrom 10 = .ok (.getstatic 9, 3) := by decide +kernel
theorem dX0_copyFrom_13 : decode cX0_copyFrom 13 = .ok (.arraylength, 1) := by decide +kernel
theorem dX0_copyFrom_14 : decode cX0_copyFrom 14 = .ok (.invokestatic 43, 3) := by decide +kernel
theorem dX0_copyFrom_17 : decode cX0_copyFrom 17 = .ok (.aload_n 1, 1) := by decide +kernel
theorem dX0_copyFrom_18 : decode cX0_copyFrom 18 = .ok (.getfield 37, 3) := by decide +kernel
theorem dX0_copyFrom_21 : decode cX0_copyFrom 21 = .ok (.iconst 0, 1) := by decide +kernel
theorem dX0_copyFrom_22 : decode cX0_copyFrom 22 = .ok (.aload_n 0, 1) := by decide +kernel
theorem dX0_copyFrom_23 : decode cX0_copyFrom 23 = .ok (.getfield 37, 3) := by decide +kernel
theorem dX0_copyFrom_26 : decode cX0_copyFrom 26 = .ok (.iconst 0, 1) := by decide +kernel
theorem dX0_copyFrom_27 : decode cX0_copyFrom 27 = .ok (.bipush 6, 2) := by decide +kernel
theorem dX0_copyFrom_29 : decode cX0_copyFrom 29 = .ok (.invokestatic 43, 3) := by decide +kernel
theorem dX0_copyFrom_32 : decode cX0_copyFrom 32 = .ok (.aload_n 1, 1) := by decide +kernel
theorem dX0_copyFrom_33 : decode cX0_copyFrom 33 = .ok (.getfield 40, 3) := by decide +kernel
theorem dX0_copyFrom_36 : decode cX0_copyFrom 36 = .ok (.iconst 0, 1) := by decide +kernel
theorem dX0_copyFrom_37 : decode cX0_copyFrom 37 = .ok (.aload_n 0, 1) := by decide +kernel
theorem dX0_copyFrom_38 : decode cX0_copyFrom 38 = .ok (.getfield 40, 3) := by decide +kernel
theorem dX0_copyFrom_41 : decode cX0_copyFrom 41 = .ok (.iconst 0, 1) := by decide +kernel
theorem dX0_copyFrom_42 : decode cX0_copyFrom 42 = .ok (.bipush 6, 2) := by decide +kernel
theorem dX0_copyFrom_44 : decode cX0_copyFrom 44 = .ok (.invokestatic 43, 3) := by decide +kernel
theorem dX0_copyFrom_47 : decode cX0_copyFrom 47 = .ok (.aload_n 0, 1) := by decide +kernel
theorem dX0_copyFrom_48 : decode cX0_copyFrom 48 = .ok (.aload_n 1, 1) := by decide +kernel
theorem dX0_copyFrom_49 : decode cX0_copyFrom 49 = .ok (.getfield 24, 3) := by decide +kernel
theorem dX0_copyFrom_52 : decode cX0_copyFrom 52 = .ok (.putfield 24, 3) := by decide +kernel
theorem dX0_copyFrom_55 : decode cX0_copyFrom 55 = .ok (.iconst 0, 1) := by decide +kernel
theorem dX0_copyFrom_56 : decode cX0_copyFrom 56 = .ok (.istore_n 2, 1) := by decide +kernel
theorem dX0_copyFrom_57 : decode cX0_copyFrom 57 = .ok (.iload_n 2, 1) := by decide +kernel
theorem dX0_copyFrom_58 : decode cX0_copyFrom 58 = .ok (.bipush 9, 2) := by decide +kernel
theorem dX0_copyFrom_60 : decode cX0_copyFrom 60 = .ok (.if_icmp .ge 24, 3) := by decide +kernel
theorem dX0_copyFrom_63 : decode cX0_copyFrom 63 = .ok (.aload_n 0, 1) := by decide +kernel
theorem dX0_copyFrom_64 : decode cX0_copyFrom 64 = .ok (.getfield 20, 3) := by decide +kernel
theorem dX0_copyFrom_67 : decode cX0_copyFrom 67 = .ok (.iload_n 2, 1) := by decide +kernel
theorem dX0_copyFrom_68 : decode cX0_copyFrom 68 = .ok (.aaload, 1) := by decide +kernel
theorem dX0_copyFrom_69 : decode cX0_copyFrom 69 = .ok (.aload_n 1, 1) := by decide +kernel
theorem dX0_copyFrom_70 : decode cX0_copyFrom 70 = .ok (.getfield 20, 3) := by decide +kernel
theorem dX0_copyFrom_73 : decode cX0_copyFrom 73 = .ok (.iload_n 2, 1) := by decide +kernel
theorem dX0_copyFrom_74 : decode cX0_copyFrom 74 = .ok (.aaload, 1) := by decide +kernel
theorem dX0_copyFrom_75 : decode cX0_copyFrom 75 = .ok (.invokevirtual 51, 3) := by decide +kernel
theorem dX0_copyFrom_78 : decode cX0_copyFrom 78 = .ok (.iinc 2 1, 3) := by decide +kernel
theorem dX0_copyFrom_81 : decode cX0_copyFrom 81 = .ok (.goto (-24), 3) := by decide +kernel
theorem dX0_copyFrom_84 : decode cX0_copyFrom 84 = .ok (.aload_n 0, 1) := by decide +kernel
theorem dX0_copyFrom_85 : decode cX0_copyFrom 85 = .ok (.aload_n 1, 1) := by decide +kernel
theorem dX0_copyFrom_86 : decode cX0_copyFrom 86 = .ok (.getfield 34, 3) := by decide +kernel
theorem dX0_copyFrom_89 : decode cX0_copyFrom 89 = .ok (.putfield 34, 3) := by decide +kernel
theorem dX0_copyFrom_92 : decode cX0_copyFrom 92 = .ok (.iconst 0, 1) := by decide +kernel
theorem dX0_copyFrom_93 : decode cX0_copyFrom 93 = .ok (.istore_n 2, 1) := by decide +kernel
theorem dX0_copyFrom_94 : decode cX0_copyFrom 94 = .ok (.iload_n 2, 1) := by decide +kernel
theorem dX0_copyFrom_95 : decode cX0_copyFrom 95 = .ok (.bipush 10, 2) := by decide +kernel
theorem dX0_copyFrom_97 : decode cX0_copyFrom 97 = .ok (.if_icmp .ge 24, 3) := by decide +kernel
theorem dX0_copyFrom_100 : decode cX0_copyFrom 100 = .ok (.aload_n 0, 1) := by decide +kernel
theorem dX0_copyFrom_101 : decode cX0_copyFrom 101 = .ok (.getfield 30, 3) := by decide +kernel
theorem dX0_copyFrom_104 : decode cX0_copyFrom 104 = .ok (.iload_n 2, 1) := by decide +kernel
theorem dX0_copyFrom_105 : decode cX0_copyFrom 105 = .ok (.aaload, 1) := by decide +kernel
theorem dX0_copyFrom_106 : decode cX0_copyFrom 106 = .ok (.aload_n 1, 1) := by decide +kernel
theorem dX0_copyFrom_107 : decode cX0_copyFrom 107 = .ok (.getfield 30, 3) := by decide +kernel
theorem dX0_copyFrom_110 : decode cX0_copyFrom 110 = .ok (.iload_n 2, 1) := by decide +kernel
theorem dX0_copyFrom_111 : decode cX0_copyFrom 111 = .ok (.aaload, 1) := by decide +kernel
theorem dX0_copyFrom_112 : decode cX0_copyFrom 112 = .ok (.invokevirtual 55, 3) := by decide +kernel
theorem dX0_copyFrom_115 : decode cX0_copyFrom 115 = .ok (.iinc 2 1, 3) := by decide +kernel
theorem dX0_copyFrom_118 : decode cX0_copyFrom 118 = .ok (.goto (-24), 3) := by decide +kernel
theorem dX0_copyFrom_121 : decode cX0_copyFrom 121 = .ok (.return_, 1) := by decide +kernel
theorem dX0_addStrip_0 : decode cX0_addStrip 0 = .ok (.aload_n 0, 1) := by decide +kernel
theorem dX0_addStrip_1 : decode cX0_addStrip 1 = .ok (.getfield 24, 3) := by decide +kernel
theorem dX0_addStrip_4 : decode cX0_addStrip 4 = .ok (.bipush 9, 2) := by decide +kernel
theorem dX0_addStrip_6 : decode cX0_addStrip 6 = .ok (.if_icmp .ge 26, 3) := by decide +kernel
theorem dX0_addStrip_9 : decode cX0_addStrip 9 = .ok (.aload_n 0, 1) := by decide +kernel
theorem dX0_addStrip_10 : decode cX0_addStrip 10 = .ok (.getfield 20, 3) := by decide +kernel
theorem dX0_addStrip_13 : decode cX0_addStrip 13 = .ok (.aload_n 0, 1) := by decide +kernel
theorem dX0_addStrip_14 : decode cX0_addStrip 14 = .ok (.getfield 24, 3) := by decide +kernel
theorem dX0_addStrip_17 : decode cX0_addStrip 17 = .ok (.aaload, 1) := by decide +kernel
theorem dX0_addStrip_18 : decode cX0_addStrip 18 = .ok (.iload_n 1, 1) := by decide +kernel
theorem dX0_addStrip_19 : decode cX0_addStrip 19 = .ok (.invokevirtual 58, 3) := by decide +kernel
theorem dX0_addStrip_22 : decode cX0_addStrip 22 = .ok (.aload_n 0, 1) := by decide +kernel
theorem dX0_addStrip_23 : decode cX0_addStrip 23 = .ok (.dup, 1) := by decide +kernel
theorem dX0_addStrip_24 : decode cX0_addStrip 24 = .ok (.getfield 24, 3) := by decide +kernel
theorem dX0_addStrip_27 : decode cX0_addStrip 27 = .ok (.iconst 1, 1) := by decide +kernel
theorem dX0_addStrip_28 : decode cX0_addStrip 28 = .ok (.iadd, 1) := by decide +kernel
theorem dX0_addStrip_29 : decode cX0_addStrip 29 = .ok (.putfield 24, 3) := by decide +kernel
theorem dX0_addStrip_32 : decode cX0_addStrip 32 = .ok (.return_, 1) := by decide +kernel
theorem dX0_replaceStrips_0 : decode cX0_replaceStrips 0 = .ok (.aload_n 0, 1) := by decide +kernel
theorem dX0_replaceStrips_1 : decode cX0_replaceStrips 1 = .ok (.iconst 0, 1) := by decide +kernel
theorem dX0_replaceStrips_2 : decode cX0_replaceStrips 2 = .ok (.putfield 24, 3) := by decide +kernel
theorem dX0_replaceStrips_5 : decode cX0_replaceStrips 5 = .ok (.iconst 0, 1) := by decide +kernel
theorem dX0_replaceStrips_6 : decode cX0_replaceStrips 6 = .ok (.istore_n 3, 1) := by decide +kernel
theorem dX0_replaceStrips_7 : decode cX0_replaceStrips 7 = .ok (.iload_n 3, 1) := by decide +kernel
theorem dX0_replaceStrips_8 : decode cX0_replaceStrips 8 = .ok (.iload_n 2, 1) := by decide +kernel
theorem dX0_replaceStrips_9 : decode cX0_replaceStrips 9 = .ok (.if_icmp .ge 16, 3) := by decide +kernel
theorem dX0_replaceStrips_12 : decode cX0_replaceStrips 12 = .ok (.aload_n 0, 1) := by decide +kernel
theorem dX0_replaceStrips_13 : decode cX0_replaceStrips 13 = .ok (.aload_n 1, 1) := by decide +kernel
theorem dX0_replaceStrips_14 : decode cX0_replaceStrips 14 = .ok (.iload_n 3, 1) := by decide +kernel
theorem dX0_replaceStrips_15 : decode cX0_replaceStrips 15 = .ok (.iaload, 1) := by decide +kernel
theorem dX0_replaceStrips_16 : decode cX0_replaceStrips 16 = .ok (.invokevirtual 62, 3) := by decide +kernel
theorem dX0_replaceStrips_19 : decode cX0_replaceStrips 19 = .ok (.iinc 3 1, 3) := by decide +kernel
theorem dX0_replaceStrips_22 : decode cX0_replaceStrips 22 = .ok (.goto (-15), 3) := by decide +kernel
theorem dX0_replaceStrips_25 : decode cX0_replaceStrips 25 = .ok (.return_, 1) := by decide +kernel
theorem dX0_addWord_0 : decode cX0_addWord 0 = .ok (.aload_n 0, 1) := by decide +kernel
theorem dX0_addWord_1 : decode cX0_addWord 1 = .ok (.getfield 34, 3) := by decide +kernel
theorem dX0_addWord_4 : decode cX0_addWord 4 = .ok (.bipush 10, 2) := by decide +kernel
theorem dX0_addWord_6 : decode cX0_addWord 6 = .ok (.if_icmp .ge 26, 3) := by decide +kernel
theorem dX0_addWord_9 : decode cX0_addWord 9 = .ok (.aload_n 0, 1) := by decide +kernel
theorem dX0_addWord_10 : decode cX0_addWord 10 = .ok (.getfield 30, 3) := by decide +kernel
theorem dX0_addWord_13 : decode cX0_addWord 13 = .ok (.aload_n 0, 1) := by decide +kernel
theorem dX0_addWord_14 : decode cX0_addWord 14 = .ok (.getfield 34, 3) := by decide +kernel
theorem dX0_addWord_17 : decode cX0_addWord 17 = .ok (.aaload, 1) := by decide +kernel
theorem dX0_addWord_18 : decode cX0_addWord 18 = .ok (.aload_n 1, 1) := by decide +kernel
theorem dX0_addWord_19 : decode cX0_addWord 19 = .ok (.invokevirtual 55, 3) := by decide +kernel
theorem dX0_addWord_22 : decode cX0_addWord 22 = .ok (.aload_n 0, 1) := by decide +kernel
theorem dX0_addWord_23 : decode cX0_addWord 23 = .ok (.dup, 1) := by decide +kernel
theorem dX0_addWord_24 : decode cX0_addWord 24 = .ok (.getfield 34, 3) := by decide +kernel
theorem dX0_addWord_27 : decode cX0_addWord 27 = .ok (.iconst 1, 1) := by decide +kernel
theorem dX0_addWord_28 : decode cX0_addWord 28 = .ok (.iadd, 1) := by decide +kernel
theorem dX0_addWord_29 : decode cX0_addWord 29 = .ok (.putfield 34, 3) := by decide +kernel
theorem dX0_addWord_32 : decode cX0_addWord 32 = .ok (.return_, 1) := by decide +kernel
theorem dX0_setFoe_0 : decode cX0_setFoe 0 = .ok (.aload_n 0, 1) := by decide +kernel
theorem dX0_setFoe_1 : decode cX0_setFoe 1 = .ok (.getfield 37, 3) := by decide +kernel
theorem dX0_setFoe_4 : decode cX0_setFoe 4 = .ok (.iload_n 1, 1) := by decide +kernel
theorem dX0_setFoe_5 : decode cX0_setFoe 5 = .ok (.iload_n 3, 1) := by decide +kernel
theorem dX0_setFoe_6 : decode cX0_setFoe 6 = .ok (.ifCond .eq 16, 3) := by decide +kernel
theorem dX0_setFoe_9 : decode cX0_setFoe 9 = .ok (.aload_n 0, 1) := by decide +kernel
theorem dX0_setFoe_10 : decode cX0_setFoe 10 = .ok (.getfield 37, 3) := by decide +kernel
theorem dX0_setFoe_13 : decode cX0_setFoe 13 = .ok (.iload_n 1, 1) := by decide +kernel
theorem dX0_setFoe_14 : decode cX0_setFoe 14 = .ok (.iaload, 1) := by decide +kernel
theorem dX0_setFoe_15 : decode cX0_setFoe 15 = .ok (.iconst 1, 1) := by decide +kernel
theorem dX0_setFoe_16 : decode cX0_setFoe 16 = .ok (.iload_n 2, 1) := by decide +kernel
theorem dX0_setFoe_17 : decode cX0_setFoe 17 = .ok (.ishl, 1) := by decide +kernel
theorem dX0_setFoe_18 : decode cX0_setFoe 18 = .ok (.ior, 1) := by decide +kernel
theorem dX0_setFoe_19 : decode cX0_setFoe 19 = .ok (.goto 15, 3) := by decide +kernel
theorem dX0_setFoe_22 : decode cX0_setFoe 22 = .ok (.aload_n 0, 1) := by decide +kernel
theorem dX0_setFoe_23 : decode cX0_setFoe 23 = .ok (.getfield 37, 3) := by decide +kernel
theorem dX0_setFoe_26 : decode cX0_setFoe 26 = .ok (.iload_n 1, 1) := by decide +kernel
theorem dX0_setFoe_27 : decode cX0_setFoe 27 = .ok (.iaload, 1) := by decide +kernel
theorem dX0_setFoe_28 : decode cX0_setFoe 28 = .ok (.iconst 1, 1) := by decide +kernel
theorem dX0_setFoe_29 : decode cX0_setFoe 29 = .ok (.iload_n 2, 1) := by decide +kernel
theorem dX0_setFoe_30 : decode cX0_setFoe 30 = .ok (.ishl, 1) := by decide +kernel
theorem dX0_setFoe_31 : decode cX0_setFoe 31 = .ok (.iconst (-1), 1) := by decide +kernel
theorem dX0_setFoe_32 : decode cX0_setFoe 32 = .ok (.ixor, 1) := by decide +kernel
theorem dX0_setFoe_33 : decode cX0_setFoe 33 = .ok (.iand, 1) := by decide +kernel
theorem dX0_setFoe_34 : decode cX0_setFoe 34 = .ok (.iastore, 1) := by decide +kernel
theorem dX0_setFoe_35 : decode cX0_setFoe 35 = .ok (.return_, 1) := by decide +kernel
theorem dX0_feudCount_0 : decode cX0_feudCount 0 = .ok (.iconst 0, 1) := by decide +kernel
theorem dX0_feudCount_1 : decode cX0_feudCount 1 = .ok (.istore_n 1, 1) := by decide +kernel
theorem dX0_feudCount_2 : decode cX0_feudCount 2 = .ok (.iconst 0, 1) := by decide +kernel
theorem dX0_feudCount_3 : decode cX0_feudCount 3 = .ok (.istore_n 2, 1) := by decide +kernel
theorem dX0_feudCount_4 : decode cX0_feudCount 4 = .ok (.iload_n 2, 1) := by decide +kernel
theorem dX0_feudCount_5 : decode cX0_feudCount 5 = .ok (.bipush 6, 2) := by decide +kernel
theorem dX0_feudCount_7 : decode cX0_feudCount 7 = .ok (.if_icmp .ge 21, 3) := by decide +kernel
theorem dX0_feudCount_10 : decode cX0_feudCount 10 = .ok (.iload_n 1, 1) := by decide +kernel
theorem dX0_feudCount_11 : decode cX0_feudCount 11 = .ok (.aload_n 0, 1) := by decide +kernel
theorem dX0_feudCount_12 : decode cX0_feudCount 12 = .ok (.getfield 37, 3) := by decide +kernel
theorem dX0_feudCount_15 : decode cX0_feudCount 15 = .ok (.iload_n 2, 1) := by decide +kernel
theorem dX0_feudCount_16 : decode cX0_feudCount 16 = .ok (.iaload, 1) := by decide +kernel
theorem dX0_feudCount_17 : decode cX0_feudCount 17 = .ok (.invokestatic 65, 3) := by decide +kernel
theorem dX0_feudCount_20 : decode cX0_feudCount 20 = .ok (.iadd, 1) := by decide +kernel
theorem dX0_feudCount_21 : decode cX0_feudCount 21 = .ok (.istore_n 1, 1) := by decide +kernel
theorem dX0_feudCount_22 : decode cX0_feudCount 22 = .ok (.iinc 2 1, 3) := by decide +kernel
theorem dX0_feudCount_25 : decode cX0_feudCount 25 = .ok (.goto (-21), 3) := by decide +kernel
theorem dX0_feudCount_28 : decode cX0_feudCount 28 = .ok (.iload_n 1, 1) := by decide +kernel
theorem dX0_feudCount_29 : decode cX0_feudCount 29 = .ok (.iconst 2, 1) := by decide +kernel
theorem dX0_feudCount_30 : decode cX0_feudCount 30 = .ok (.idiv, 1) := by decide +kernel
theorem dX0_feudCount_31 : decode cX0_feudCount 31 = .ok (.ireturn, 1) := by decide +kernel
theorem dX0_allHay_0 : decode cX0_allHay 0 = .ok (.iconst 0, 1) := by decide +kernel
theorem dX0_allHay_1 : decode cX0_allHay 1 = .ok (.istore_n 1, 1) := by decide +kernel
theorem dX0_allHay_2 : decode cX0_allHay 2 = .ok (.iconst 0, 1) := by decide +kernel
theorem dX0_allHay_3 : decode cX0_allHay 3 = .ok (.istore_n 2, 1) := by decide +kernel
theorem dX0_allHay_4 : decode cX0_allHay 4 = .ok (.iload_n 2, 1) := by decide +kernel
theorem dX0_allHay_5 : decode cX0_allHay 5 = .ok (.bipush 6, 2) := by decide +kernel
theorem dX0_allHay_7 : decode cX0_allHay 7 = .ok (.if_icmp .ge 18, 3) := by decide +kernel
theorem dX0_allHay_10 : decode cX0_allHay 10 = .ok (.iload_n 1, 1) := by decide +kernel
theorem dX0_allHay_11 : decode cX0_allHay 11 = .ok (.aload_n 0, 1) := by decide +kernel
theorem dX0_allHay_12 : decode cX0_allHay 12 = .ok (.getfield 40, 3) := by decide +kernel
theorem dX0_allHay_15 : decode cX0_allHay 15 = .ok (.iload_n 2, 1) := by decide +kernel
theorem dX0_allHay_16 : decode cX0_allHay 16 = .ok (.iaload, 1) := by decide +kernel
theorem dX0_allHay_17 : decode cX0_allHay 17 = .ok (.iadd, 1) := by decide +kernel
theorem dX0_allHay_18 : decode cX0_allHay 18 = .ok (.istore_n 1, 1) := by decide +kernel
theorem dX0_allHay_19 : decode cX0_allHay 19 = .ok (.iinc 2 1, 3) := by decide +kernel
theorem dX0_allHay_22 : decode cX0_allHay 22 = .ok (.goto (-18), 3) := by decide +kernel
theorem dX0_allHay_25 : decode cX0_allHay 25 = .ok (.iload_n 1, 1) := by decide +kernel
theorem dX0_allHay_26 : decode cX0_allHay 26 = .ok (.ireturn, 1) := by decide +kernel
theorem dX0_growFor_0 : decode cX0_growFor 0 = .ok (.iconst 0, 1) := by decide +kernel
theorem dX0_growFor_1 : decode cX0_growFor 1 = .ok (.istore_n 2, 1) := by decide +kernel
theorem dX0_growFor_2 : decode cX0_growFor 2 = .ok (.iconst 0, 1) := by decide +kernel
theorem dX0_growFor_3 : decode cX0_growFor 3 = .ok (.istore_n 3, 1) := by decide +kernel
theorem dX0_growFor_4 : decode cX0_growFor 4 = .ok (.iload_n 3, 1) := by decide +kernel
theorem dX0_growFor_5 : decode cX0_growFor 5 = .ok (.aload_n 0, 1) := by decide +kernel
theorem dX0_growFor_6 : decode cX0_growFor 6 = .ok (.getfield 24, 3) := by decide +kernel
theorem dX0_growFor_9 : decode cX0_growFor 9 = .ok (.if_icmp .ge 29, 3) := by decide +kernel
theorem dX0_growFor_12 : decode cX0_growFor 12 = .ok (.iload_n 2, 1) := by decide +kernel
theorem dX0_growFor_13 : decode cX0_growFor 13 = .ok (.aload_n 0, 1) := by decide +kernel
theorem dX0_growFor_14 : decode cX0_growFor 14 = .ok (.getfield 20, 3) := by decide +kernel
theorem dX0_growFor_17 : decode cX0_growFor 17 = .ok (.iload_n 3, 1) := by decide +kernel
theorem dX0_growFor_18 : decode cX0_growFor 18 = .ok (.aaload, 1) := by decide +kernel
theorem dX0_growFor_19 : decode cX0_growFor 19 = .ok (.iload_n 1, 1) := by decide +kernel
theorem dX0_growFor_20 : decode cX0_growFor 20 = .ok (.aload_n 0, 1) := by decide +kernel
theorem dX0_growFor_21 : decode cX0_growFor 21 = .ok (.getfield 13, 3) := by decide +kernel
theorem dX0_growFor_24 : decode cX0_growFor 24 = .ok (.iconst 0, 1) := by decide +kernel
theorem dX0_growFor_25 : decode cX0_growFor 25 = .ok (.iaload, 1) := by decide +kernel
theorem dX0_growFor_26 : decode cX0_growFor 26 = .ok (.imul, 1) := by decide +kernel
theorem dX0_growFor_27 : decode cX0_growFor 27 = .ok (.invokevirtual 71, 3) := by decide +kernel
theorem dX0_growFor_30 : decode cX0_growFor 30 = .ok (.iadd, 1) := by decide +kernel
theorem dX0_growFor_31 : decode cX0_growFor 31 = .ok (.istore_n 2, 1) := by decide +kernel
theorem dX0_growFor_32 : decode cX0_growFor 32 = .ok (.iinc 3 1, 3) := by decide +kernel
theorem dX0_growFor_35 : decode cX0_growFor 35 = .ok (.goto (-31), 3) := by decide +kernel
theorem dX0_growFor_38 : decode cX0_growFor 38 = .ok (.iload_n 2, 1) := by decide +kernel
theorem dX0_growFor_39 : decode cX0_growFor 39 = .ok (.ireturn, 1) := by decide +kernel
theorem dX0_harvest_0 : decode cX0_harvest 0 = .ok (.aload_n 0, 1) := by decide +kernel
theorem dX0_harvest_1 : decode cX0_harvest 1 = .ok (.getfield 20, 3) := by decide +kernel
theorem dX0_harvest_4 : decode cX0_harvest 4 = .ok (.iload_n 1, 1) := by decide +kernel
theorem dX0_harvest_5 : decode cX0_harvest 5 = .ok (.aaload, 1) := by decide +kernel
theorem dX0_harvest_6 : decode cX0_harvest 6 = .ok (.iload_n 2, 1) := by decide +kernel
theorem dX0_harvest_7 : decode cX0_harvest 7 = .ok (.invokevirtual 74, 3) := by decide +kernel
theorem dX0_harvest_10 : decode cX0_harvest 10 = .ok (.istore_n 3, 1) := by decide +kernel
theorem dX0_harvest_11 : decode cX0_harvest 11 = .ok (.aload_n 0, 1) := by decide +kernel
theorem dX0_harvest_12 : decode cX0_harvest 12 = .ok (.getfield 20, 3) := by decide +kernel
theorem dX0_harvest_15 : decode cX0_harvest 15 = .ok (.iload_n 1, 1) := by decide +kernel
theorem dX0_harvest_16 : decode cX0_harvest 16 = .ok (.aaload, 1) := by decide +kernel
theorem dX0_harvest_17 : decode cX0_harvest 17 = .ok (.iload_n 2, 1) := by decide +kernel
theorem dX0_harvest_18 : decode cX0_harvest 18 = .ok (.invokevirtual 77, 3) := by decide +kernel
theorem dX0_harvest_21 : decode cX0_harvest 21 = .ok (.aload_n 0, 1) := by decide +kernel
theorem dX0_harvest_22 : decode cX0_harvest 22 = .ok (.getfield 40, 3) := by decide +kernel
theorem dX0_harvest_25 : decode cX0_harvest 25 = .ok (.aload_n 0, 1) := by decide +kernel
theorem dX0_harvest_26 : decode cX0_harvest 26 = .ok (.getfield 20, 3) := by decide +kernel
theorem dX0_harvest_29 : decode cX0_harvest 29 = .ok (.iload_n 1, 1) := by decide +kernel
theorem dX0_harvest_30 : decode cX0_harvest 30 = .ok (.aaload, 1) := by decide +kernel
theorem dX0_harvest_31 : decode cX0_harvest 31 = .ok (.getfield 80, 3) := by decide +kernel
theorem dX0_harvest_34 : decode cX0_harvest 34 = .ok (.dup2, 1) := by decide +kernel
theorem dX0_harvest_35 : decode cX0_harvest 35 = .ok (.iaload, 1) := by decide +kernel
theorem dX0_harvest_36 : decode cX0_harvest 36 = .ok (.iload_n 3, 1) := by decide +kernel
theorem dX0_harvest_37 : decode cX0_harvest 37 = .ok (.iadd, 1) := by decide +kernel
theorem dX0_harvest_38 : decode cX0_harvest 38 = .ok (.iastore, 1) := by decide +kernel
theorem dX0_harvest_39 : decode cX0_harvest 39 = .ok (.iload_n 3, 1) := by decide +kernel
theorem dX0_harvest_40 : decode cX0_harvest 40 = .ok (.ireturn, 1) := by decide +kernel
theorem dX0_seenCells_0 : decode cX0_seenCells 0 = .ok (.aload_n 0, 1) := by decide +kernel
theorem dX0_seenCells_1 : decode cX0_seenCells 1 = .ok (.getfield 20, 3) := by decide +kernel
theorem dX0_seenCells_4 : decode cX0_seenCells 4 = .ok (.iload_n 1, 1) := by decide +kernel
theorem dX0_seenCells_5 : decode cX0_seenCells 5 = .ok (.aaload, 1) := by decide +kernel
theorem dX0_seenCells_6 : decode cX0_seenCells 6 = .ok (.aload_n 0, 1) := by decide +kernel
theorem dX0_seenCells_7 : decode cX0_seenCells 7 = .ok (.getfield 13, 3) := by decide +kernel
theorem dX0_seenCells_10 : decode cX0_seenCells 10 = .ok (.iconst 1, 1) := by decide +kernel
theorem dX0_seenCells_11 : decode cX0_seenCells 11 = .ok (.iaload, 1) := by decide +kernel
theorem dX0_seenCells_12 : decode cX0_seenCells 12 = .ok (.invokevirtual 83, 3) := by decide +kernel
theorem dX0_seenCells_15 : decode cX0_seenCells 15 = .ok (.ireturn, 1) := by decide +kernel
theorem dX0_letterOn_0 : decode cX0_letterOn 0 = .ok (.aload_n 0, 1) := by decide +kernel
theorem dX0_letterOn_1 : decode cX0_letterOn 1 = .ok (.aload_n 0, 1) := by decide +kernel
theorem dX0_letterOn_2 : decode cX0_letterOn 2 = .ok (.iload_n 1, 1) := by decide +kernel
theorem dX0_letterOn_3 : decode cX0_letterOn 3 = .ok (.invokevirtual 86, 3) := by decide +kernel
theorem dX0_letterOn_6 : decode cX0_letterOn 6 = .ok (.invokevirtual 89, 3) := by decide +kernel
theorem dX0_letterOn_9 : decode cX0_letterOn 9 = .ok (.ireturn, 1) := by decide +kernel
theorem dX0_letterSeenAs_0 : decode cX0_letterSeenAs 0 = .ok (.iload_n 1, 1) := by decide +kernel
theorem dX0_letterSeenAs_1 : decode cX0_letterSeenAs 1 = .ok (.invokestatic 92, 3) := by decide +kernel
theorem dX0_letterSeenAs_4 : decode cX0_letterSeenAs 4 = .ok (.istore_n 2, 1) := by decide +kernel
theorem dX0_letterSeenAs_5 : decode cX0_letterSeenAs 5 = .ok (.iload_n 2, 1) := by decide +kernel
theorem dX0_letterSeenAs_6 : decode cX0_letterSeenAs 6 = .ok (.bipush 32, 2) := by decide +kernel
theorem dX0_letterSeenAs_8 : decode cX0_letterSeenAs 8 = .ok (.idiv, 1) := by decide +kernel
theorem dX0_letterSeenAs_9 : decode cX0_letterSeenAs 9 = .ok (.aload_n 0, 1) := by decide +kernel
theorem dX0_letterSeenAs_10 : decode cX0_letterSeenAs 10 = .ok (.getfield 13, 3) := by decide +kernel
theorem dX0_letterSeenAs_13 : decode cX0_letterSeenAs 13 = .ok (.iconst 2, 1) := by decide +kernel
theorem dX0_letterSeenAs_14 : decode cX0_letterSeenAs 14 = .ok (.iaload, 1) := by decide +kernel
theorem dX0_letterSeenAs_15 : decode cX0_letterSeenAs 15 = .ok (.if_icmp .le 8, 3) := by decide +kernel
theorem dX0_letterSeenAs_18 : decode cX0_letterSeenAs 18 = .ok (.bipush (-4), 2) := by decide +kernel
theorem dX0_letterSeenAs_20 : decode cX0_letterSeenAs 20 = .ok (.goto 7, 3) := by decide +kernel
theorem dX0_letterSeenAs_23 : decode cX0_letterSeenAs 23 = .ok (.iload_n 2, 1) := by decide +kernel
theorem dX0_letterSeenAs_24 : decode cX0_letterSeenAs 24 = .ok (.bipush 32, 2) := by decide +kernel
theorem dX0_letterSeenAs_26 : decode cX0_letterSeenAs 26 = .ok (.irem, 1) := by decide +kernel
theorem dX0_letterSeenAs_27 : decode cX0_letterSeenAs 27 = .ok (.ireturn, 1) := by decide +kernel
theorem dX0_hasRoom_0 : decode cX0_hasRoom 0 = .ok (.iload_n 2, 1) := by decide +kernel
theorem dX0_hasRoom_1 : decode cX0_hasRoom 1 = .ok (.aload_n 1, 1) := by decide +kernel
theorem dX0_hasRoom_2 : decode cX0_hasRoom 2 = .ok (.getfield 95, 3) := by decide +kernel
theorem dX0_hasRoom_5 : decode cX0_hasRoom 5 = .ok (.iadd, 1) := by decide +kernel
theorem dX0_hasRoom_6 : decode cX0_hasRoom 6 = .ok (.aload_n 0, 1) := by decide +kernel
theorem dX0_hasRoom_7 : decode cX0_hasRoom 7 = .ok (.getfield 24, 3) := by decide +kernel
theorem dX0_hasRoom_10 : decode cX0_hasRoom 10 = .ok (.if_icmp .gt 7, 3) := by decide +kernel
theorem dX0_hasRoom_13 : decode cX0_hasRoom 13 = .ok (.iconst 1, 1) := by decide +kernel
theorem dX0_hasRoom_14 : decode cX0_hasRoom 14 = .ok (.goto 4, 3) := by decide +kernel
theorem dX0_hasRoom_17 : decode cX0_hasRoom 17 = .ok (.iconst 0, 1) := by decide +kernel
theorem dX0_hasRoom_18 : decode cX0_hasRoom 18 = .ok (.ireturn, 1) := by decide +kernel
theorem dX0_isWritten_0 : decode cX0_isWritten 0 = .ok (.aload_n 0, 1) := by decide +kernel
theorem dX0_isWritten_1 : decode cX0_isWritten 1 = .ok (.aload_n 1, 1) := by decide +kernel
theorem dX0_isWritten_2 : decode cX0_isWritten 2 = .ok (.iload_n 2, 1) := by decide +kernel
theorem dX0_isWritten_3 : decode cX0_isWritten 3 = .ok (.invokevirtual 98, 3) := by decide +kernel
theorem dX0_isWritten_6 : decode cX0_isWritten 6 = .ok (.ifCond .ne 5, 3) := by decide +kernel
theorem dX0_isWritten_9 : decode cX0_isWritten 9 = .ok (.iconst 0, 1) := by decide +kernel
theorem dX0_isWritten_10 : decode cX0_isWritten 10 = .ok (.ireturn, 1) := by decide +kernel
theorem dX0_isWritten_11 : decode cX0_isWritten 11 = .ok (.aload_n 0, 1) := by decide +kernel
theorem dX0_isWritten_12 : decode cX0_isWritten 12 = .ok (.getfield 13, 3) := by decide +kernel
theorem dX0_isWritten_15 : decode cX0_isWritten 15 = .ok (.iconst 1, 1) := by decide +kernel
theorem dX0_isWritten_16 : decode cX0_isWritten 16 = .ok (.iaload, 1) := by decide +kernel
theorem dX0_isWritten_17 : decode cX0_isWritten 17 = .ok (.iload_n 3, 1) := by decide +kernel
theorem dX0_isWritten_18 : decode cX0_isWritten 18 = .ok (.aload_n 0, 1) := by decide +kernel
theorem dX0_isWritten_19 : decode cX0_isWritten 19 = .ok (.getfield 13, 3) := by decide +kernel
theorem dX0_isWritten_22 : decode cX0_isWritten 22 = .ok (.iconst 0, 1) := by decide +kernel
theorem dX0_isWritten_23 : decode cX0_isWritten 23 = .ok (.iaload, 1) := by decide +kernel
theorem dX0_isWritten_24 : decode cX0_isWritten 24 = .ok (.imul, 1) := by decide +kernel
theorem dX0_isWritten_25 : decode cX0_isWritten 25 = .ok (.isub, 1) := by decide +kernel
theorem dX0_isWritten_26 : decode cX0_isWritten 26 = .ok (.istore 4, 2) := by decide +kernel
theorem dX0_isWritten_28 : decode cX0_isWritten 28 = .ok (.iconst 0, 1) := by decide +kernel
theorem dX0_isWritten_29 : decode cX0_isWritten 29 = .ok (.istore 5, 2) := by decide +kernel
theorem dX0_isWritten_31 : decode cX0_isWritten 31 = .ok (.iload 5, 2) := by decide +kernel
theorem dX0_isWritten_33 : decode cX0_isWritten 33 = .ok (.aload_n 1, 1) := by decide +kernel
theorem dX0_isWritten_34 : decode cX0_isWritten 34 = .ok (.getfield 95, 3) := by decide +kernel
theorem dX0_isWritten_37 : decode cX0_isWritten 37 = .ok (.if_icmp .ge 39, 3) := by decide +kernel
theorem dX0_isWritten_40 : decode cX0_isWritten 40 = .ok (.aload_n 0, 1) := by decide +kernel
theorem dX0_isWritten_41 : decode cX0_isWritten 41 = .ok (.aload_n 0, 1) := by decide +kernel
theorem dX0_isWritten_42 : decode cX0_isWritten 42 = .ok (.getfield 20, 3) := by decide +kernel
theorem dX0_isWritten_45 : decode cX0_isWritten 45 = .ok (.iload_n 2, 1) := by decide +kernel
theorem dX0_isWritten_46 : decode cX0_isWritten 46 = .ok (.iload 5, 2) := by decide +kernel
theorem dX0_isWritten_48 : decode cX0_isWritten 48 = .ok (.iadd, 1) := by decide +kernel
theorem dX0_isWritten_49 : decode cX0_isWritten 49 = .ok (.aaload, 1) := by decide +kernel
theorem dX0_isWritten_50 : decode cX0_isWritten 50 = .ok (.iload 4, 2) := by decide +kernel
theorem dX0_isWritten_52 : decode cX0_isWritten 52 = .ok (.invokevirtual 83, 3) := by decide +kernel
theorem dX0_isWritten_55 : decode cX0_isWritten 55 = .ok (.invokevirtual 89, 3) := by decide +kernel
theorem dX0_isWritten_58 : decode cX0_isWritten 58 = .ok (.aload_n 1, 1) := by decide +kernel
theorem dX0_isWritten_59 : decode cX0_isWritten 59 = .ok (.getfield 102, 3) := by decide +kernel
theorem dX0_isWritten_62 : decode cX0_isWritten 62 = .ok (.iload 5, 2) := by decide +kernel
theorem dX0_isWritten_64 : decode cX0_isWritten 64 = .ok (.iaload, 1) := by decide +kernel
theorem dX0_isWritten_65 : decode cX0_isWritten 65 = .ok (.if_icmp .eq 5, 3) := by decide +kernel
theorem dX0_isWritten_68 : decode cX0_isWritten 68 = .ok (.iconst 0, 1) := by decide +kernel
theorem dX0_isWritten_69 : decode cX0_isWritten 69 = .ok (.ireturn, 1) := by decide +kernel
theorem dX0_isWritten_70 : decode cX0_isWritten 70 = .ok (.iinc 5 1, 3) := by decide +kernel
theorem dX0_isWritten_73 : decode cX0_isWritten 73 = .ok (.goto (-42), 3) := by decide +kernel
theorem dX0_isWritten_76 : decode cX0_isWritten 76 = .ok (.iconst 1, 1) := by decide +kernel
theorem dX0_isWritten_77 : decode cX0_isWritten 77 = .ok (.ireturn, 1) := by decide +kernel
theorem dX0_cellsOff_0 : decode cX0_cellsOff 0 = .ok (.iconst 0, 1) := by decide +kernel
theorem dX0_cellsOff_1 : decode cX0_cellsOff 1 = .ok (.istore_n 3, 1) := by decide +kernel
theorem dX0_cellsOff_2 : decode cX0_cellsOff 2 = .ok (.iconst 0, 1) := by decide +kernel
theorem dX0_cellsOff_3 : decode cX0_cellsOff 3 = .ok (.istore 4, 2) := by decide +kernel
theorem dX0_cellsOff_5 : decode cX0_cellsOff 5 = .ok (.iload 4, 2) := by decide +kernel
theorem dX0_cellsOff_7 : decode cX0_cellsOff 7 = .ok (.aload_n 1, 1) := by decide +kernel
theorem dX0_cellsOff_8 : decode cX0_cellsOff 8 = .ok (.getfield 95, 3) := by decide +kernel
theorem dX0_cellsOff_11 : decode cX0_cellsOff 11 = .ok (.if_icmp .ge 35, 3) := by decide +kernel
theorem dX0_cellsOff_14 : decode cX0_cellsOff 14 = .ok (.iload_n 3, 1) := by decide +kernel
theorem dX0_cellsOff_15 : decode cX0_cellsOff 15 = .ok (.aload_n 0, 1) := by decide +kernel
theorem dX0_cellsOff_16 : decode cX0_cellsOff 16 = .ok (.iload_n 2, 1) := by decide +kernel
theorem dX0_cellsOff_17 : decode cX0_cellsOff 17 = .ok (.iload 4, 2) := by decide +kernel
theorem dX0_cellsOff_19 : decode cX0_cellsOff 19 = .ok (.iadd, 1) := by decide +kernel
theorem dX0_cellsOff_20 : decode cX0_cellsOff 20 = .ok (.invokevirtual 86, 3) := by decide +kernel
theorem dX0_cellsOff_23 : decode cX0_cellsOff 23 = .ok (.getstatic 105, 3) := by decide +kernel
theorem dX0_cellsOff_26 : decode cX0_cellsOff 26 = .ok (.aload_n 1, 1) := by decide +kernel
theorem dX0_cellsOff_27 : decode cX0_cellsOff 27 = .ok (.getfield 102, 3) := by decide +kernel
theorem dX0_cellsOff_30 : decode cX0_cellsOff 30 = .ok (.iload 4, 2) := by decide +kernel
theorem dX0_cellsOff_32 : decode cX0_cellsOff 32 = .ok (.iaload, 1) := by decide +kernel
theorem dX0_cellsOff_33 : decode cX0_cellsOff 33 = .ok (.iaload, 1) := by decide +kernel
theorem dX0_cellsOff_34 : decode cX0_cellsOff 34 = .ok (.ixor, 1) := by decide +kernel
theorem dX0_cellsOff_35 : decode cX0_cellsOff 35 = .ok (.invokestatic 65, 3) := by decide +kernel
theorem dX0_cellsOff_38 : decode cX0_cellsOff 38 = .ok (.iadd, 1) := by decide +kernel
theorem dX0_cellsOff_39 : decode cX0_cellsOff 39 = .ok (.istore_n 3, 1) := by decide +kernel
theorem dX0_cellsOff_40 : decode cX0_cellsOff 40 = .ok (.iinc 4 1, 3) := by decide +kernel
theorem dX0_cellsOff_43 : decode cX0_cellsOff 43 = .ok (.goto (-38), 3) := by decide +kernel
theorem dX0_cellsOff_46 : decode cX0_cellsOff 46 = .ok (.iload_n 3, 1) := by decide +kernel
theorem dX0_cellsOff_47 : decode cX0_cellsOff 47 = .ok (.ireturn, 1) := by decide +kernel
theorem dX0_isAllowed_0 : decode cX0_isAllowed 0 = .ok (.aload_n 0, 1) := by decide +kernel
theorem dX0_isAllowed_1 : decode cX0_isAllowed 1 = .ok (.aload_n 1, 1) := by decide +kernel
theorem dX0_isAllowed_2 : decode cX0_isAllowed 2 = .ok (.iload_n 2, 1) := by decide +kernel
theorem dX0_isAllowed_3 : decode cX0_isAllowed 3 = .ok (.invokevirtual 98, 3) := by decide +kernel
theorem dX0_isAllowed_6 : decode cX0_isAllowed 6 = .ok (.ifCond .eq 12, 3) := by decide +kernel
theorem dX0_isAllowed_9 : decode cX0_isAllowed 9 = .ok (.aload_n 0, 1) := by decide +kernel
theorem dX0_isAllowed_10 : decode cX0_isAllowed 10 = .ok (.aload_n 1, 1) := by decide +kernel
theorem dX0_isAllowed_11 : decode cX0_isAllowed 11 = .ok (.iload_n 2, 1) := by decide +kernel
theorem dX0_isAllowed_12 : decode cX0_isAllowed 12 = .ok (.invokevirtual 108, 3) := by decide +kernel
theorem dX0_isAllowed_15 : decode cX0_isAllowed 15 = .ok (.ifCond .eq 5, 3) := by decide +kernel
theorem dX0_isAllowed_18 : decode cX0_isAllowed 18 = .ok (.iconst 0, 1) := by decide +kernel
theorem dX0_isAllowed_19 : decode cX0_isAllowed 19 = .ok (.ireturn, 1) := by decide +kernel
theorem dX0_isAllowed_20 : decode cX0_isAllowed 20 = .ok (.iconst 0, 1) := by decide +kernel
theorem dX0_isAllowed_21 : decode cX0_isAllowed 21 = .ok (.istore_n 3, 1) := by decide +kernel
theorem dX0_isAllowed_22 : decode cX0_isAllowed 22 = .ok (.iload_n 3, 1) := by decide +kernel
theorem dX0_isAllowed_23 : decode cX0_isAllowed 23 = .ok (.aload_n 1, 1) := by decide +kernel
theorem dX0_isAllowed_24 : decode cX0_isAllowed 24 = .ok (.getfield 95, 3) := by decide +kernel
theorem dX0_isAllowed_27 : decode cX0_isAllowed 27 = .ok (.if_icmp .ge 27, 3) := by decide +kernel
theorem dX0_isAllowed_30 : decode cX0_isAllowed 30 = .ok (.aload_n 0, 1) := by decide +kernel
theorem dX0_isAllowed_31 : decode cX0_isAllowed 31 = .ok (.iload_n 2, 1) := by decide +kernel
theorem dX0_isAllowed_32 : decode cX0_isAllowed 32 = .ok (.iload_n 3, 1) := by decide +kernel
theorem dX0_isAllowed_33 : decode cX0_isAllowed 33 = .ok (.iadd, 1) := by decide +kernel
theorem dX0_isAllowed_34 : decode cX0_isAllowed 34 = .ok (.aload_n 1, 1) := by decide +kernel
theorem dX0_isAllowed_35 : decode cX0_isAllowed 35 = .ok (.getfield 102, 3) := by decide +kernel
theorem dX0_isAllowed_38 : decode cX0_isAllowed 38 = .ok (.iload_n 3, 1) := by decide +kernel
theorem dX0_isAllowed_39 : decode cX0_isAllowed 39 = .ok (.iaload, 1) := by decide +kernel
theorem dX0_isAllowed_40 : decode cX0_isAllowed 40 = .ok (.invokevirtual 111, 3) := by decide +kernel
theorem dX0_isAllowed_43 : decode cX0_isAllowed 43 = .ok (.ifCond .ne 5, 3) := by decide +kernel
theorem dX0_isAllowed_46 : decode cX0_isAllowed 46 = .ok (.iconst 0, 1) := by decide +kernel
theorem dX0_isAllowed_47 : decode cX0_isAllowed 47 = .ok (.ireturn, 1) := by decide +kernel
theorem dX0_isAllowed_48 : decode cX0_isAllowed 48 = .ok (.iinc 3 1, 3) := by decide +kernel
theorem dX0_isAllowed_51 : decode cX0_isAllowed 51 = .ok (.goto (-29), 3) := by decide +kernel
theorem dX0_isAllowed_54 : decode cX0_isAllowed 54 = .ok (.iconst 1, 1) := by decide +kernel
theorem dX0_isAllowed_55 : decode cX0_isAllowed 55 = .ok (.ireturn, 1) := by decide +kernel
theorem dX0_hasFeud_0 : decode cX0_hasFeud 0 = .ok (.iconst 0, 1) := by decide +kernel
theorem dX0_hasFeud_1 : decode cX0_hasFeud 1 = .ok (.istore_n 3, 1) := by decide +kernel
theorem dX0_hasFeud_2 : decode cX0_hasFeud 2 = .ok (.iconst 0, 1) := by decide +kernel
theorem dX0_hasFeud_3 : decode cX0_hasFeud 3 = .ok (.istore 4, 2) := by decide +kernel
theorem dX0_hasFeud_5 : decode cX0_hasFeud 5 = .ok (.iconst 0, 1) := by decide +kernel
theorem dX0_hasFeud_6 : decode cX0_hasFeud 6 = .ok (.istore 5, 2) := by decide +kernel
theorem dX0_hasFeud_8 : decode cX0_hasFeud 8 = .ok (.iload 5, 2) := by decide +kernel
theorem dX0_hasFeud_10 : decode cX0_hasFeud 10 = .ok (.aload_n 1, 1) := by decide +kernel
theorem dX0_hasFeud_11 : decode cX0_hasFeud 11 = .ok (.getfield 95, 3) := by decide +kernel
theorem dX0_hasFeud_14 : decode cX0_hasFeud 14 = .ok (.if_icmp .ge 48, 3) := by decide +kernel
theorem dX0_hasFeud_17 : decode cX0_hasFeud 17 = .ok (.iload_n 3, 1) := by decide +kernel
theorem dX0_hasFeud_18 : decode cX0_hasFeud 18 = .ok (.iconst 1, 1) := by decide +kernel
theorem dX0_hasFeud_19 : decode cX0_hasFeud 19 = .ok (.aload_n 0, 1) := by decide +kernel
theorem dX0_hasFeud_20 : decode cX0_hasFeud 20 = .ok (.getfield 20, 3) := by decide +kernel
theorem dX0_hasFeud_23 : decode cX0_hasFeud 23 = .ok (.iload_n 2, 1) := by decide +kernel
theorem dX0_hasFeud_24 : decode cX0_hasFeud 24 = .ok (.iload 5, 2) := by decide +kernel
theorem dX0_hasFeud_26 : decode cX0_hasFeud 26 = .ok (.iadd, 1) := by decide +kernel
theorem dX0_hasFeud_27 : decode cX0_hasFeud 27 = .ok (.aaload, 1) := by decide +kernel
theorem dX0_hasFeud_28 : decode cX0_hasFeud 28 = .ok (.getfield 80, 3) := by decide +kernel
theorem dX0_hasFeud_31 : decode cX0_hasFeud 31 = .ok (.ishl, 1) := by decide +kernel
theorem dX0_hasFeud_32 : decode cX0_hasFeud 32 = .ok (.ior, 1) := by decide +kernel
theorem dX0_hasFeud_33 : decode cX0_hasFeud 33 = .ok (.istore_n 3, 1) := by decide +kernel
theorem dX0_hasFeud_34 : decode cX0_hasFeud 34 = .ok (.iload 4, 2) := by decide +kernel
theorem dX0_hasFeud_36 : decode cX0_hasFeud 36 = .ok (.aload_n 0, 1) := by decide +kernel
theorem dX0_hasFeud_37 : decode cX0_hasFeud 37 = .ok (.getfield 37, 3) := by decide +kernel
theorem dX0_hasFeud_40 : decode cX0_hasFeud 40 = .ok (.aload_n 0, 1) := by decide +kernel
theorem dX0_hasFeud_41 : decode cX0_hasFeud 41 = .ok (.getfield 20, 3) := by decide +kernel
theorem dX0_hasFeud_44 : decode cX0_hasFeud 44 = .ok (.iload_n 2, 1) := by decide +kernel
theorem dX0_hasFeud_45 : decode cX0_hasFeud 45 = .ok (.iload 5, 2) := by decide +kernel
theorem dX0_hasFeud_47 : decode cX0_hasFeud 47 = .ok (.iadd, 1) := by decide +kernel
theorem dX0_hasFeud_48 : decode cX0_hasFeud 48 = .ok (.aaload, 1) := by decide +kernel
theorem dX0_hasFeud_49 : decode cX0_hasFeud 49 = .ok (.getfield 80, 3) := by decide +kernel
theorem dX0_hasFeud_52 : decode cX0_hasFeud 52 = .ok (.iaload, 1) := by decide +kernel
theorem dX0_hasFeud_53 : decode cX0_hasFeud 53 = .ok (.ior, 1) := by decide +kernel
theorem dX0_hasFeud_54 : decode cX0_hasFeud 54 = .ok (.istore 4, 2) := by decide +kernel
theorem dX0_hasFeud_56 : decode cX0_hasFeud 56 = .ok (.iinc 5 1, 3) := by decide +kernel
theorem dX0_hasFeud_59 : decode cX0_hasFeud 59 = .ok (.goto (-51), 3) := by decide +kernel
theorem dX0_hasFeud_62 : decode cX0_hasFeud 62 = .ok (.iload_n 3, 1) := by decide +kernel
theorem dX0_hasFeud_63 : decode cX0_hasFeud 63 = .ok (.iload 4, 2) := by decide +kernel
theorem dX0_hasFeud_65 : decode cX0_hasFeud 65 = .ok (.iand, 1) := by decide +kernel
theorem dX0_hasFeud_66 : decode cX0_hasFeud 66 = .ok (.ifCond .eq 7, 3) := by decide +kernel
theorem dX0_hasFeud_69 : decode cX0_hasFeud 69 = .ok (.iconst 1, 1) := by decide +kernel
theorem dX0_hasFeud_70 : decode cX0_hasFeud 70 = .ok (.goto 4, 3) := by decide +kernel
theorem dX0_hasFeud_73 : decode cX0_hasFeud 73 = .ok (.iconst 0, 1) := by decide +kernel
theorem dX0_hasFeud_74 : decode cX0_hasFeud 74 = .ok (.ireturn, 1) := by decide +kernel
theorem dX0_wouldRead_0 : decode cX0_wouldRead 0 = .ok (.getstatic 105, 3) := by decide +kernel
theorem dX0_wouldRead_3 : decode cX0_wouldRead 3 = .ok (.iload_n 2, 1) := by decide +kernel
theorem dX0_wouldRead_4 : decode cX0_wouldRead 4 = .ok (.iaload, 1) := by decide +kernel
theorem dX0_wouldRead_5 : decode cX0_wouldRead 5 = .ok (.istore_n 3, 1) := by decide +kernel
theorem dX0_wouldRead_6 : decode cX0_wouldRead 6 = .ok (.aload_n 0, 1) := by decide +kernel
theorem dX0_wouldRead_7 : decode cX0_wouldRead 7 = .ok (.getfield 20, 3) := by decide +kernel
theorem dX0_wouldRead_10 : decode cX0_wouldRead 10 = .ok (.iload_n 1, 1) := by decide +kernel
theorem dX0_wouldRead_11 : decode cX0_wouldRead 11 = .ok (.aaload, 1) := by decide +kernel
theorem dX0_wouldRead_12 : decode cX0_wouldRead 12 = .ok (.iload_n 3, 1) := by decide +kernel
theorem dX0_wouldRead_13 : decode cX0_wouldRead 13 = .ok (.invokevirtual 115, 3) := by decide +kernel
theorem dX0_wouldRead_16 : decode cX0_wouldRead 16 = .ok (.ifCond .eq 22, 3) := by decide +kernel
theorem dX0_wouldRead_19 : decode cX0_wouldRead 19 = .ok (.aload_n 0, 1) := by decide +kernel
theorem dX0_wouldRead_20 : decode cX0_wouldRead 20 = .ok (.aload_n 0, 1) := by decide +kernel
theorem dX0_wouldRead_21 : decode cX0_wouldRead 21 = .ok (.iload_n 1, 1) := by decide +kernel
theorem dX0_wouldRead_22 : decode cX0_wouldRead 22 = .ok (.invokevirtual 86, 3) := by decide +kernel
theorem dX0_wouldRead_25 : decode cX0_wouldRead 25 = .ok (.iload_n 3, 1) := by decide +kernel
theorem dX0_wouldRead_26 : decode cX0_wouldRead 26 = .ok (.ior, 1) := by decide +kernel
theorem dX0_wouldRead_27 : decode cX0_wouldRead 27 = .ok (.invokevirtual 89, 3) := by decide +kernel
theorem dX0_wouldRead_30 : decode cX0_wouldRead 30 = .ok (.iload_n 2, 1) := by decide +kernel
theorem dX0_wouldRead_31 : decode cX0_wouldRead 31 = .ok (.if_icmp .ne 7, 3) := by decide +kernel
theorem dX0_wouldRead_34 : decode cX0_wouldRead 34 = .ok (.iconst 1, 1) := by decide +kernel
theorem dX0_wouldRead_35 : decode cX0_wouldRead 35 = .ok (.goto 4, 3) := by decide +kernel
theorem dX0_wouldRead_38 : decode cX0_wouldRead 38 = .ok (.iconst 0, 1) := by decide +kernel
theorem dX0_wouldRead_39 : decode cX0_wouldRead 39 = .ok (.ireturn, 1) := by decide +kernel
theorem dX0_lossBy_0 : decode cX0_lossBy 0 = .ok (.iconst 0, 1) := by decide +kernel
theorem dX0_lossBy_1 : decode cX0_lossBy 1 = .ok (.istore_n 3, 1) := by decide +kernel
theorem dX0_lossBy_2 : decode cX0_lossBy 2 = .ok (.iconst 0, 1) := by decide +kernel
theorem dX0_lossBy_3 : decode cX0_lossBy 3 = .ok (.istore 4, 2) := by decide +kernel
theorem dX0_lossBy_5 : decode cX0_lossBy 5 = .ok (.iload 4, 2) := by decide +kernel
theorem dX0_lossBy_7 : decode cX0_lossBy 7 = .ok (.aload_n 1, 1) := by decide +kernel
theorem dX0_lossBy_8 : decode cX0_lossBy 8 = .ok (.getfield 95, 3) := by decide +kernel
theorem dX0_lossBy_11 : decode cX0_lossBy 11 = .ok (.if_icmp .ge 27, 3) := by decide +kernel
theorem dX0_lossBy_14 : decode cX0_lossBy 14 = .ok (.iload_n 3, 1) := by decide +kernel
theorem dX0_lossBy_15 : decode cX0_lossBy 15 = .ok (.aload_n 0, 1) := by decide +kernel
theorem dX0_lossBy_16 : decode cX0_lossBy 16 = .ok (.iload_n 2, 1) := by decide +kernel
theorem dX0_lossBy_17 : decode cX0_lossBy 17 = .ok (.iload 4, 2) := by decide +kernel
theorem dX0_lossBy_19 : decode cX0_lossBy 19 = .ok (.iadd, 1) := by decide +kernel
theorem dX0_lossBy_20 : decode cX0_lossBy 20 = .ok (.aload_n 1, 1) := by decide +kernel
theorem dX0_lossBy_21 : decode cX0_lossBy 21 = .ok (.getfield 102, 3) := by decide +kernel
theorem dX0_lossBy_24 : decode cX0_lossBy 24 = .ok (.iload 4, 2) := by decide +kernel
theorem dX0_lossBy_26 : decode cX0_lossBy 26 = .ok (.iaload, 1) := by decide +kernel
theorem dX0_lossBy_27 : decode cX0_lossBy 27 = .ok (.invokevirtual 119, 3) := by decide +kernel
theorem dX0_lossBy_30 : decode cX0_lossBy 30 = .ok (.iadd, 1) := by decide +kernel
theorem dX0_lossBy_31 : decode cX0_lossBy 31 = .ok (.istore_n 3, 1) := by decide +kernel
theorem dX0_lossBy_32 : decode cX0_lossBy 32 = .ok (.iinc 4 1, 3) := by decide +kernel
theorem dX0_lossBy_35 : decode cX0_lossBy 35 = .ok (.goto (-30), 3) := by decide +kernel
theorem dX0_lossBy_38 : decode cX0_lossBy 38 = .ok (.iload_n 3, 1) := by decide +kernel
theorem dX0_lossBy_39 : decode cX0_lossBy 39 = .ok (.ireturn, 1) := by decide +kernel
theorem dX0_lossOn_0 : decode cX0_lossOn 0 = .ok (.aload_n 0, 1) := by decide +kernel
theorem dX0_lossOn_1 : decode cX0_lossOn 1 = .ok (.getfield 20, 3) := by decide +kernel
theorem dX0_lossOn_4 : decode cX0_lossOn 4 = .ok (.iload_n 1, 1) := by decide +kernel
theorem dX0_lossOn_5 : decode cX0_lossOn 5 = .ok (.aaload, 1) := by decide +kernel
theorem dX0_lossOn_6 : decode cX0_lossOn 6 = .ok (.invokevirtual 123, 3) := by decide +kernel
theorem dX0_lossOn_9 : decode cX0_lossOn 9 = .ok (.getstatic 105, 3) := by decide +kernel
theorem dX0_lossOn_12 : decode cX0_lossOn 12 = .ok (.iload_n 2, 1) := by decide +kernel
theorem dX0_lossOn_13 : decode cX0_lossOn 13 = .ok (.iaload, 1) := by decide +kernel
theorem dX0_lossOn_14 : decode cX0_lossOn 14 = .ok (.iconst (-1), 1) := by decide +kernel
theorem dX0_lossOn_15 : decode cX0_lossOn 15 = .ok (.ixor, 1) := by decide +kernel
theorem dX0_lossOn_16 : decode cX0_lossOn 16 = .ok (.iand, 1) := by decide +kernel
theorem dX0_lossOn_17 : decode cX0_lossOn 17 = .ok (.istore_n 3, 1) := by decide +kernel
theorem dX0_lossOn_18 : decode cX0_lossOn 18 = .ok (.aload_n 0, 1) := by decide +kernel
theorem dX0_lossOn_19 : decode cX0_lossOn 19 = .ok (.getfield 13, 3) := by decide +kernel
theorem dX0_lossOn_22 : decode cX0_lossOn 22 = .ok (.iconst 3, 1) := by decide +kernel
theorem dX0_lossOn_23 : decode cX0_lossOn 23 = .ok (.iaload, 1) := by decide +kernel
theorem dX0_lossOn_24 : decode cX0_lossOn 24 = .ok (.aload_n 0, 1) := by decide +kernel
theorem dX0_lossOn_25 : decode cX0_lossOn 25 = .ok (.getfield 20, 3) := by decide +kernel
theorem dX0_lossOn_28 : decode cX0_lossOn 28 = .ok (.iload_n 1, 1) := by decide +kernel
theorem dX0_lossOn_29 : decode cX0_lossOn 29 = .ok (.aaload, 1) := by decide +kernel
theorem dX0_lossOn_30 : decode cX0_lossOn 30 = .ok (.iload_n 3, 1) := by decide +kernel
theorem dX0_lossOn_31 : decode cX0_lossOn 31 = .ok (.invokevirtual 74, 3) := by decide +kernel
theorem dX0_lossOn_34 : decode cX0_lossOn 34 = .ok (.imul, 1) := by decide +kernel
theorem dX0_lossOn_35 : decode cX0_lossOn 35 = .ok (.ireturn, 1) := by decide +kernel
theorem dX0_shareOf_0 : decode cX0_shareOf 0 = .ok (.aload_n 1, 1) := by decide +kernel
theorem dX0_shareOf_1 : decode cX0_shareOf 1 = .ok (.getfield 95, 3) := by decide +kernel
theorem dX0_shareOf_4 : decode cX0_shareOf 4 = .ok (.iconst 1, 1) := by decide +kernel
theorem dX0_shareOf_5 : decode cX0_shareOf 5 = .ok (.if_icmp .ge 5, 3) := by decide +kernel
theorem dX0_shareOf_8 : decode cX0_shareOf 8 = .ok (.iconst 0, 1) := by decide +kernel
theorem dX0_shareOf_9 : decode cX0_shareOf 9 = .ok (.ireturn, 1) := by decide +kernel
theorem dX0_shareOf_10 : decode cX0_shareOf 10 = .ok (.iload 4, 2) := by decide +kernel
theorem dX0_shareOf_12 : decode cX0_shareOf 12 = .ok (.aload_n 1, 1) := by decide +kernel
theorem dX0_shareOf_13 : decode cX0_shareOf 13 = .ok (.getfield 95, 3) := by decide +kernel
theorem dX0_shareOf_16 : decode cX0_shareOf 16 = .ok (.idiv, 1) := by decide +kernel
theorem dX0_shareOf_17 : decode cX0_shareOf 17 = .ok (.istore 5, 2) := by decide +kernel
theorem dX0_shareOf_19 : decode cX0_shareOf 19 = .ok (.iload 4, 2) := by decide +kernel
theorem dX0_shareOf_21 : decode cX0_shareOf 21 = .ok (.aload_n 1, 1) := by decide +kernel
theorem dX0_shareOf_22 : decode cX0_shareOf 22 = .ok (.getfield 95, 3) := by decide +kernel
theorem dX0_shareOf_25 : decode cX0_shareOf 25 = .ok (.irem, 1) := by decide +kernel
theorem dX0_shareOf_26 : decode cX0_shareOf 26 = .ok (.istore 6, 2) := by decide +kernel
theorem dX0_shareOf_28 : decode cX0_shareOf 28 = .ok (.iconst 0, 1) := by decide +kernel
theorem dX0_shareOf_29 : decode cX0_shareOf 29 = .ok (.istore 7, 2) := by decide +kernel
theorem dX0_shareOf_31 : decode cX0_shareOf 31 = .ok (.iconst 0, 1) := by decide +kernel
theorem dX0_shareOf_32 : decode cX0_shareOf 32 = .ok (.istore 8, 2) := by decide +kernel
theorem dX0_shareOf_34 : decode cX0_shareOf 34 = .ok (.iload 8, 2) := by decide +kernel
theorem dX0_shareOf_36 : decode cX0_shareOf 36 = .ok (.aload_n 1, 1) := by decide +kernel
theorem dX0_shareOf_37 : decode cX0_shareOf 37 = .ok (.getfield 95, 3) := by decide +kernel
theorem dX0_shareOf_40 : decode cX0_shareOf 40 = .ok (.if_icmp .ge 61, 3) := by decide +kernel
theorem dX0_shareOf_43 : decode cX0_shareOf 43 = .ok (.aload_n 0, 1) := by decide +kernel
theorem dX0_shareOf_44 : decode cX0_shareOf 44 = .ok (.getfield 20, 3) := by decide +kernel
theorem dX0_shareOf_47 : decode cX0_shareOf 47 = .ok (.iload_n 2, 1) := by decide +kernel
theorem dX0_shareOf_48 : decode cX0_shareOf 48 = .ok (.iload 8, 2) := by decide +kernel
theorem dX0_shareOf_50 : decode cX0_shareOf 50 = .ok (.iadd, 1) := by decide +kernel
theorem dX0_shareOf_51 : decode cX0_shareOf 51 = .ok (.aaload, 1) := by decide +kernel
theorem dX0_shareOf_52 : decode cX0_shareOf 52 = .ok (.getfield 80, 3) := by decide +kernel
theorem dX0_shareOf_55 : decode cX0_shareOf 55 = .ok (.iload_n 3, 1) := by decide +kernel
theorem dX0_shareOf_56 : decode cX0_shareOf 56 = .ok (.if_icmp .ne 39, 3) := by decide +kernel
theorem dX0_shareOf_59 : decode cX0_shareOf 59 = .ok (.iload 7, 2) := by decide +kernel
theorem dX0_shareOf_61 : decode cX0_shareOf 61 = .ok (.aload_n 0, 1) := by decide +kernel
theorem dX0_shareOf_62 : decode cX0_shareOf 62 = .ok (.iload_n 2, 1) := by decide +kernel
theorem dX0_shareOf_63 : decode cX0_shareOf 63 = .ok (.iload 8, 2) := by decide +kernel
theorem dX0_shareOf_65 : decode cX0_shareOf 65 = .ok (.iadd, 1) := by decide +kernel
theorem dX0_shareOf_66 : decode cX0_shareOf 66 = .ok (.aload_n 1, 1) := by decide +kernel
theorem dX0_shareOf_67 : decode cX0_shareOf 67 = .ok (.getfield 102, 3) := by decide +kernel
theorem dX0_shareOf_70 : decode cX0_shareOf 70 = .ok (.iload 8, 2) := by decide +kernel
theorem dX0_shareOf_72 : decode cX0_shareOf 72 = .ok (.iaload, 1) := by decide +kernel
theorem dX0_shareOf_73 : decode cX0_shareOf 73 = .ok (.invokevirtual 119, 3) := by decide +kernel
theorem dX0_shareOf_76 : decode cX0_shareOf 76 = .ok (.iload 5, 2) := by decide +kernel
theorem dX0_shareOf_78 : decode cX0_shareOf 78 = .ok (.iadd, 1) := by decide +kernel
theorem dX0_shareOf_79 : decode cX0_shareOf 79 = .ok (.iload 8, 2) := by decide +kernel
theorem dX0_shareOf_81 : decode cX0_shareOf 81 = .ok (.iload 6, 2) := by decide +kernel
theorem dX0_shareOf_83 : decode cX0_shareOf 83 = .ok (.if_icmp .ge 7, 3) := by decide +kernel
theorem dX0_shareOf_86 : decode cX0_shareOf 86 = .ok (.iconst 1, 1) := by decide +kernel
theorem dX0_shareOf_87 : decode cX0_shareOf 87 = .ok (.goto 4, 3) := by decide +kernel
theorem dX0_shareOf_90 : decode cX0_shareOf 90 = .ok (.iconst 0, 1) := by decide +kernel
theorem dX0_shareOf_91 : decode cX0_shareOf 91 = .ok (.iadd, 1) := by decide +kernel
theorem dX0_shareOf_92 : decode cX0_shareOf 92 = .ok (.iadd, 1) := by decide +kernel
theorem dX0_shareOf_93 : decode cX0_shareOf 93 = .ok (.istore 7, 2) := by decide +kernel
theorem dX0_shareOf_95 : decode cX0_shareOf 95 = .ok (.iinc 8 1, 3) := by decide +kernel
theorem dX0_shareOf_98 : decode cX0_shareOf 98 = .ok (.goto (-64), 3) := by decide +kernel
theorem dX0_shareOf_101 : decode cX0_shareOf 101 = .ok (.iload 7, 2) := by decide +kernel
theorem dX0_shareOf_103 : decode cX0_shareOf 103 = .ok (.ireturn, 1) := by decide +kernel
theorem dX0_isOwnForm_0 : decode cX0_isOwnForm 0 = .ok (.iconst 0, 1) := by decide +kernel
theorem dX0_isOwnForm_1 : decode cX0_isOwnForm 1 = .ok (.istore_n 3, 1) := by decide +kernel
theorem dX0_isOwnForm_2 : decode cX0_isOwnForm 2 = .ok (.iload_n 3, 1) := by decide +kernel
theorem dX0_isOwnForm_3 : decode cX0_isOwnForm 3 = .ok (.aload_n 0, 1) := by decide +kernel
theorem dX0_isOwnForm_4 : decode cX0_isOwnForm 4 = .ok (.getfield 34, 3) := by decide +kernel
theorem dX0_isOwnForm_7 : decode cX0_isOwnForm 7 = .ok (.if_icmp .ge 38, 3) := by decide +kernel
theorem dX0_isOwnForm_10 : decode cX0_isOwnForm 10 = .ok (.aload_n 1, 1) := by decide +kernel
theorem dX0_isOwnForm_11 : decode cX0_isOwnForm 11 = .ok (.aload_n 0, 1) := by decide +kernel
theorem dX0_isOwnForm_12 : decode cX0_isOwnForm 12 = .ok (.getfield 30, 3) := by decide +kernel
theorem dX0_isOwnForm_15 : decode cX0_isOwnForm 15 = .ok (.iload_n 3, 1) := by decide +kernel
theorem dX0_isOwnForm_16 : decode cX0_isOwnForm 16 = .ok (.aaload, 1) := by decide +kernel
theorem dX0_isOwnForm_17 : decode cX0_isOwnForm 17 = .ok (.invokevirtual 127, 3) := by decide +kernel
theorem dX0_isOwnForm_20 : decode cX0_isOwnForm 20 = .ok (.ifCond .ne 19, 3) := by decide +kernel
theorem dX0_isOwnForm_23 : decode cX0_isOwnForm 23 = .ok (.aload_n 1, 1) := by decide +kernel
theorem dX0_isOwnForm_24 : decode cX0_isOwnForm 24 = .ok (.iload_n 2, 1) := by decide +kernel
theorem dX0_isOwnForm_25 : decode cX0_isOwnForm 25 = .ok (.aload_n 0, 1) := by decide +kernel
theorem dX0_isOwnForm_26 : decode cX0_isOwnForm 26 = .ok (.getfield 30, 3) := by decide +kernel
theorem dX0_isOwnForm_29 : decode cX0_isOwnForm 29 = .ok (.iload_n 3, 1) := by decide +kernel
theorem dX0_isOwnForm_30 : decode cX0_isOwnForm 30 = .ok (.aaload, 1) := by decide +kernel
theorem dX0_isOwnForm_31 : decode cX0_isOwnForm 31 = .ok (.invokevirtual 131, 3) := by decide +kernel
theorem dX0_isOwnForm_34 : decode cX0_isOwnForm 34 = .ok (.ifCond .eq 5, 3) := by decide +kernel
theorem dX0_isOwnForm_37 : decode cX0_isOwnForm 37 = .ok (.iconst 0, 1) := by decide +kernel
theorem dX0_isOwnForm_38 : decode cX0_isOwnForm 38 = .ok (.ireturn, 1) := by decide +kernel
theorem dX0_isOwnForm_39 : decode cX0_isOwnForm 39 = .ok (.iinc 3 1, 3) := by decide +kernel
theorem dX0_isOwnForm_42 : decode cX0_isOwnForm 42 = .ok (.goto (-40), 3) := by decide +kernel
theorem dX0_isOwnForm_45 : decode cX0_isOwnForm 45 = .ok (.iconst 1, 1) := by decide +kernel
theorem dX0_isOwnForm_46 : decode cX0_isOwnForm 46 = .ok (.ireturn, 1) := by decide +kernel
theorem dX1_init_0 : decode cX1_init 0 = .ok (.aload_n 0, 1) := by decide +kernel
theorem dX1_init_1 : decode cX1_init 1 = .ok (.invokespecial 3, 3) := by decide +kernel
theorem dX1_init_4 : decode cX1_init 4 = .ok (.aload_n 0, 1) := by decide +kernel
theorem dX1_init_5 : decode cX1_init 5 = .ok (.aconst_null, 1) := by decide +kernel
theorem dX1_init_6 : decode cX1_init 6 = .ok (.putfield 9, 3) := by decide +kernel
theorem dX1_init_9 : decode cX1_init 9 = .ok (.aload_n 0, 1) := by decide +kernel
theorem dX1_init_10 : decode cX1_init 10 = .ok (.bipush 26, 2) := by decide +kernel
theorem dX1_init_12 : decode cX1_init 12 = .ok (.anewarray 15, 3) := by decide +kernel
theorem dX1_init_15 : decode cX1_init 15 = .ok (.putfield 17, 3) := by decide +kernel
theorem dX1_init_18 : decode cX1_init 18 = .ok (.aload_n 0, 1) := by decide +kernel
theorem dX1_init_19 : decode cX1_init 19 = .ok (.bipush 16, 2) := by decide +kernel
theorem dX1_init_21 : decode cX1_init 21 = .ok (.newarray .long, 2) := by decide +kernel
theorem dX1_init_23 : decode cX1_init 23 = .ok (.putfield 21, 3) := by decide +kernel
theorem dX1_init_26 : decode cX1_init 26 = .ok (.return_, 1) := by decide +kernel
theorem dX1_surenessOf_0 : decode cX1_surenessOf 0 = .ok (.aload_n 0, 1) := by decide +kernel
theorem dX1_surenessOf_1 : decode cX1_surenessOf 1 = .ok (.iload_n 2, 1) := by decide +kernel
theorem dX1_surenessOf_2 : decode cX1_surenessOf 2 = .ok (.invokevirtual 25, 3) := by decide +kernel
theorem dX1_surenessOf_5 : decode cX1_surenessOf 5 = .ok (.aload_n 0, 1) := by decide +kernel
theorem dX1_surenessOf_6 : decode cX1_surenessOf 6 = .ok (.iload_n 1, 1) := by decide +kernel
theorem dX1_surenessOf_7 : decode cX1_surenessOf 7 = .ok (.invokevirtual 29, 3) := by decide +kernel
theorem dX1_surenessOf_10 : decode cX1_surenessOf 10 = .ok (.iload_n 1, 1) := by decide +kernel
theorem dX1_surenessOf_11 : decode cX1_surenessOf 11 = .ok (.iload_n 3, 1) := by decide +kernel
theorem dX1_surenessOf_12 : decode cX1_surenessOf 12 = .ok (.aload_n 0, 1) := by decide +kernel
theorem dX1_surenessOf_13 : decode cX1_surenessOf 13 = .ok (.getfield 21, 3) := by decide +kernel
theorem dX1_surenessOf_16 : decode cX1_surenessOf 16 = .ok (.invokevirtual 33, 3) := by decide +kernel
theorem dX1_surenessOf_19 : decode cX1_surenessOf 19 = .ok (.lstore 4, 2) := by decide +kernel
theorem dX1_surenessOf_21 : decode cX1_surenessOf 21 = .ok (.bipush 30, 2) := by decide +kernel
theorem dX1_surenessOf_23 : decode cX1_surenessOf 23 = .ok (.istore 6, 2) := by decide +kernel
theorem dX1_surenessOf_25 : decode cX1_surenessOf 25 = .ok (.ldc2_w 37, 3) := by decide +kernel
theorem dX1_surenessOf_28 : decode cX1_surenessOf 28 = .ok (.lload 4, 2) := by decide +kernel
theorem dX1_surenessOf_30 : decode cX1_surenessOf 30 = .ok (.iload 6, 2) := by decide +kernel
theorem dX1_surenessOf_32 : decode cX1_surenessOf 32 = .ok (.lshr, 1) := by decide +kernel
theorem dX1_surenessOf_33 : decode cX1_surenessOf 33 = .ok (.lmul, 1) := by decide +kernel
theorem dX1_surenessOf_34 : decode cX1_surenessOf 34 = .ok (.lstore 7, 2) := by decide +kernel
theorem dX1_surenessOf_36 : decode cX1_surenessOf 36 = .ok (.ldc2_w 37, 3) := by decide +kernel
theorem dX1_surenessOf_39 : decode cX1_surenessOf 39 = .ok (.lload 4, 2) := by decide +kernel
theorem dX1_surenessOf_41 : decode cX1_surenessOf 41 = .ok (.lconst 1, 1) := by decide +kernel
theorem dX1_surenessOf_42 : decode cX1_surenessOf 42 = .ok (.iload 6, 2) := by decide +kernel
theorem dX1_surenessOf_44 : decode cX1_surenessOf 44 = .ok (.lshl, 1) := by decide +kernel
theorem dX1_surenessOf_45 : decode cX1_surenessOf 45 = .ok (.lconst 1, 1) := by decide +kernel
theorem dX1_surenessOf_46 : decode cX1_surenessOf 46 = .ok (.lsub, 1) := by decide +kernel
theorem dX1_surenessOf_47 : decode cX1_surenessOf 47 = .ok (.land, 1) := by decide +kernel
theorem dX1_surenessOf_48 : decode cX1_surenessOf 48 = .ok (.lmul, 1) := by decide +kernel
theorem dX1_surenessOf_49 : decode cX1_surenessOf 49 = .ok (.lstore 9, 2) := by decide +kernel
theorem dX1_surenessOf_51 : decode cX1_surenessOf 51 = .ok (.lload 7, 2) := by decide +kernel
theorem dX1_surenessOf_53 : decode cX1_surenessOf 53 = .ok (.lload 9, 2) := by decide +kernel
theorem dX1_surenessOf_55 : decode cX1_surenessOf 55 = .ok (.iload 6, 2) := by decide +kernel
theorem dX1_surenessOf_57 : decode cX1_surenessOf 57 = .ok (.lshr, 1) := by decide +kernel
theorem dX1_surenessOf_58 : decode cX1_surenessOf 58 = .ok (.ladd, 1) := by decide +kernel
theorem dX1_surenessOf_59 : decode cX1_surenessOf 59 = .ok (.iload 6, 2) := by decide +kernel
theorem dX1_surenessOf_61 : decode cX1_surenessOf 61 = .ok (.lshr, 1) := by decide +kernel
theorem dX1_surenessOf_62 : decode cX1_surenessOf 62 = .ok (.l2i, 1) := by decide +kernel
theorem dX1_surenessOf_63 : decode cX1_surenessOf 63 = .ok (.ireturn, 1) := by decide +kernel
theorem dX1_mistakeFor_0 : decode cX1_mistakeFor 0 = .ok (.aload_n 0, 1) := by decide +kernel
theorem dX1_mistakeFor_1 : decode cX1_mistakeFor 1 = .ok (.iload_n 2, 1) := by decide +kernel
theorem dX1_mistakeFor_2 : decode cX1_mistakeFor 2 = .ok (.invokevirtual 25, 3) := by decide +kernel
theorem dX1_mistakeFor_5 : decode cX1_mistakeFor 5 = .ok (.aload_n 0, 1) := by decide +kernel
theorem dX1_mistakeFor_6 : decode cX1_mistakeFor 6 = .ok (.iload_n 1, 1) := by decide +kernel
theorem dX1_mistakeFor_7 : decode cX1_mistakeFor 7 = .ok (.invokevirtual 29, 3) := by decide +kernel
theorem dX1_mistakeFor_10 : decode cX1_mistakeFor 10 = .ok (.astore 4, 2) := by decide +kernel
theorem dX1_mistakeFor_12 : decode cX1_mistakeFor 12 = .ok (.bipush (-4), 2) := by decide +kernel
theorem dX1_mistakeFor_14 : decode cX1_mistakeFor 14 = .ok (.istore 5, 2) := by decide +kernel
theorem dX1_mistakeFor_16 : decode cX1_mistakeFor 16 = .ok (.lconst 0, 1) := by decide +kernel
theorem dX1_mistakeFor_17 : decode cX1_mistakeFor 17 = .ok (.lstore 6, 2) := by decide +kernel
theorem dX1_mistakeFor_19 : decode cX1_mistakeFor 19 = .ok (.iconst 0, 1) := by decide +kernel
theorem dX1_mistakeFor_20 : decode cX1_mistakeFor 20 = .ok (.istore 8, 2) := by decide +kernel
theorem dX1_mistakeFor_22 : decode cX1_mistakeFor 22 = .ok (.iload 8, 2) := by decide +kernel
theorem dX1_mistakeFor_24 : decode cX1_mistakeFor 24 = .ok (.bipush 26, 2) := by decide +kernel
theorem dX1_mistakeFor_26 : decode cX1_mistakeFor 26 = .ok (.if_icmp .ge 49, 3) := by decide +kernel
theorem dX1_mistakeFor_29 : decode cX1_mistakeFor 29 = .ok (.iload 8, 2) := by decide +kernel
theorem dX1_mistakeFor_31 : decode cX1_mistakeFor 31 = .ok (.iload_n 1, 1) := by decide +kernel
theorem dX1_mistakeFor_32 : decode cX1_mistakeFor 32 = .ok (.if_icmp .ne 7, 3) := by decide +kernel
theorem dX1_mistakeFor_35 : decode cX1_mistakeFor 35 = .ok (.lconst 0, 1) := by decide +kernel
theorem dX1_mistakeFor_36 : decode cX1_mistakeFor 36 = .ok (.goto 15, 3) := by decide +kernel
theorem dX1_mistakeFor_39 : decode cX1_mistakeFor 39 = .ok (.aload 4, 2) := by decide +kernel
theorem dX1_mistakeFor_41 : decode cX1_mistakeFor 41 = .ok (.iload 8, 2) := by decide +kernel
theorem dX1_mistakeFor_43 : decode cX1_mistakeFor 43 = .ok (.iload_n 3, 1) := by decide +kernel
theorem dX1_mistakeFor_44 : decode cX1_mistakeFor 44 = .ok (.aload_n 0, 1) := by decide +kernel
theorem dX1_mistakeFor_45 : decode cX1_mistakeFor 45 = .ok (.getfield 21, 3) := by decide +kernel
theorem dX1_mistakeFor_48 : decode cX1_mistakeFor 48 = .ok (.invokevirtual 33, 3) := by decide +kernel
theorem dX1_mistakeFor_51 : decode cX1_mistakeFor 51 = .ok (.lstore 9, 2) := by decide +kernel
theorem dX1_mistakeFor_53 : decode cX1_mistakeFor 53 = .ok (.lload 9, 2) := by decide +kernel
theorem dX1_mistakeFor_55 : decode cX1_mistakeFor 55 = .ok (.lload 6, 2) := by decide +kernel
theorem dX1_mistakeFor_57 : decode cX1_mistakeFor 57 = .ok (.lcmp, 1) := by decide +kernel
theorem dX1_mistakeFor_58 : decode cX1_mistakeFor 58 = .ok (.ifCond .le 11, 3) := by decide +kernel
theorem dX1_mistakeFor_61 : decode cX1_mistakeFor 61 = .ok (.iload 8, 2) := by decide +kernel
theorem dX1_mistakeFor_63 : decode cX1_mistakeFor 63 = .ok (.istore 5, 2) := by decide +kernel
theorem dX1_mistakeFor_65 : decode cX1_mistakeFor 65 = .ok (.lload 9, 2) := by decide +kernel
theorem dX1_mistakeFor_67 : decode cX1_mistakeFor 67 = .ok (.lstore 6, 2) := by decide +kernel
theorem dX1_mistakeFor_69 : decode cX1_mistakeFor 69 = .ok (.iinc 8 1, 3) := by decide +kernel
theorem dX1_mistakeFor_72 : decode cX1_mistakeFor 72 = .ok (.goto (-50), 3) := by decide +kernel
theorem dX1_mistakeFor_75 : decode cX1_mistakeFor 75 = .ok (.iload 5, 2) := by decide +kernel
theorem dX1_mistakeFor_77 : decode cX1_mistakeFor 77 = .ok (.ireturn, 1) := by decide +kernel
theorem dX1_weigh_0 : decode cX1_weigh 0 = .ok (.iconst 0, 1) := by decide +kernel
theorem dX1_weigh_1 : decode cX1_weigh 1 = .ok (.istore_n 2, 1) := by decide +kernel
theorem dX1_weigh_2 : decode cX1_weigh 2 = .ok (.iload_n 2, 1) := by decide +kernel
theorem dX1_weigh_3 : decode cX1_weigh 3 = .ok (.bipush 15, 2) := by decide +kernel
theorem dX1_weigh_5 : decode cX1_weigh 5 = .ok (.if_icmp .gt 53, 3) := by decide +kernel
theorem dX1_weigh_8 : decode cX1_weigh 8 = .ok (.lconst 1, 1) := by decide +kernel
theorem dX1_weigh_9 : decode cX1_weigh 9 = .ok (.lstore_n 3, 1) := by decide +kernel
theorem dX1_weigh_10 : decode cX1_weigh 10 = .ok (.iconst 0, 1) := by decide +kernel
theorem dX1_weigh_11 : decode cX1_weigh 11 = .ok (.istore 5, 2) := by decide +kernel
theorem dX1_weigh_13 : decode cX1_weigh 13 = .ok (.iload 5, 2) := by decide +kernel
theorem dX1_weigh_15 : decode cX1_weigh 15 = .ok (.bipush 15, 2) := by decide +kernel
theorem dX1_weigh_17 : decode cX1_weigh 17 = .ok (.if_icmp .ge 28, 3) := by decide +kernel
theorem dX1_weigh_20 : decode cX1_weigh 20 = .ok (.lload_n 3, 1) := by decide +kernel
theorem dX1_weigh_21 : decode cX1_weigh 21 = .ok (.iload 5, 2) := by decide +kernel
theorem dX1_weigh_23 : decode cX1_weigh 23 = .ok (.iload_n 2, 1) := by decide +kernel
theorem dX1_weigh_24 : decode cX1_weigh 24 = .ok (.if_icmp .ge 8, 3) := by decide +kernel
theorem dX1_weigh_27 : decode cX1_weigh 27 = .ok (.iload_n 1, 1) := by decide +kernel
theorem dX1_weigh_28 : decode cX1_weigh 28 = .ok (.i2l, 1) := by decide +kernel
theorem dX1_weigh_29 : decode cX1_weigh 29 = .ok (.goto 8, 3) := by decide +kernel
theorem dX1_weigh_32 : decode cX1_weigh 32 = .ok (.bipush 16, 2) := by decide +kernel
theorem dX1_weigh_34 : decode cX1_weigh 34 = .ok (.iload_n 1, 1) := by decide +kernel
theorem dX1_weigh_35 : decode cX1_weigh 35 = .ok (.isub, 1) := by decide +kernel
theorem dX1_weigh_36 : decode cX1_weigh 36 = .ok (.i2l, 1) := by decide +kernel
theorem dX1_weigh_37 : decode cX1_weigh 37 = .ok (.lmul, 1) := by decide +kernel
theorem dX1_weigh_38 : decode cX1_weigh 38 = .ok (.lstore_n 3, 1) := by decide +kernel
theorem dX1_weigh_39 : decode cX1_weigh 39 = .ok (.iinc 5 1, 3) := by decide +kernel
theorem dX1_weigh_42 : decode cX1_weigh 42 = .ok (.goto (-29), 3) := by decide +kernel
theorem dX1_weigh_45 : decode cX1_weigh 45 = .ok (.aload_n 0, 1) := by decide +kernel
theorem dX1_weigh_46 : decode cX1_weigh 46 = .ok (.getfield 21, 3) := by decide +kernel
theorem dX1_weigh_49 : decode cX1_weigh 49 = .ok (.iload_n 2, 1) := by decide +kernel
theorem dX1_weigh_50 : decode cX1_weigh 50 = .ok (.lload_n 3, 1) := by decide +kernel
theorem dX1_weigh_51 : decode cX1_weigh 51 = .ok (.lastore, 1) := by decide +kernel
theorem dX1_weigh_52 : decode cX1_weigh 52 = .ok (.iinc 2 1, 3) := by decide +kernel
theorem dX1_weigh_55 : decode cX1_weigh 55 = .ok (.goto (-53), 3) := by decide +kernel
theorem dX1_weigh_58 : decode cX1_weigh 58 = .ok (.return_, 1) := by decide +kernel
theorem dX1_tallyOf_0 : decode cX1_tallyOf 0 = .ok (.aload_n 0, 1) := by decide +kernel
theorem dX1_tallyOf_1 : decode cX1_tallyOf 1 = .ok (.getfield 9, 3) := by decide +kernel
theorem dX1_tallyOf_4 : decode cX1_tallyOf 4 = .ok (.ifnonnull 10, 3) := by decide +kernel
theorem dX1_tallyOf_7 : decode cX1_tallyOf 7 = .ok (.aload_n 0, 1) := by decide +kernel
theorem dX1_tallyOf_8 : decode cX1_tallyOf 8 = .ok (.invokestatic 39, 3) := by decide +kernel
theorem dX1_tallyOf_11 : decode cX1_tallyOf 11 = .ok (.putfield 9, 3) := by decide +kernel
theorem dX1_tallyOf_14 : decode cX1_tallyOf 14 = .ok (.aload_n 0, 1) := by decide +kernel
theorem dX1_tallyOf_15 : decode cX1_tallyOf 15 = .ok (.getfield 17, 3) := by decide +kernel
theorem dX1_tallyOf_18 : decode cX1_tallyOf 18 = .ok (.iload_n 1, 1) := by decide +kernel
theorem dX1_tallyOf_19 : decode cX1_tallyOf 19 = .ok (.aaload, 1) := by decide +kernel
theorem dX1_tallyOf_20 : decode cX1_tallyOf 20 = .ok (.ifnonnull 25, 3) := by decide +kernel
theorem dX1_tallyOf_23 : decode cX1_tallyOf 23 = .ok (.aload_n 0, 1) := by decide +kernel
theorem dX1_tallyOf_24 : decode cX1_tallyOf 24 = .ok (.getfield 17, 3) := by decide +kernel
theorem dX1_tallyOf_27 : decode cX1_tallyOf 27 = .ok (.iload_n 1, 1) := by decide +kernel
theorem dX1_tallyOf_28 : decode cX1_tallyOf 28 = .ok (.new 15, 3) := by decide +kernel
theorem dX1_tallyOf_31 : decode cX1_tallyOf 31 = .ok (.dup, 1) := by decide +kernel
theorem dX1_tallyOf_32 : decode cX1_tallyOf 32 = .ok (.getstatic 43, 3) := by decide +kernel
theorem dX1_tallyOf_35 : decode cX1_tallyOf 35 = .ok (.iload_n 1, 1) := by decide +kernel
theorem dX1_tallyOf_36 : decode cX1_tallyOf 36 = .ok (.iaload, 1) := by decide +kernel
theorem dX1_tallyOf_37 : decode cX1_tallyOf 37 = .ok (.aload_n 0, 1) := by decide +kernel
theorem dX1_tallyOf_38 : decode cX1_tallyOf 38 = .ok (.getfield 9, 3) := by decide +kernel
theorem dX1_tallyOf_41 : decode cX1_tallyOf 41 = .ok (.invokespecial 46, 3) := by decide +kernel
theorem dX1_tallyOf_44 : decode cX1_tallyOf 44 = .ok (.aastore, 1) := by decide +kernel
theorem dX1_tallyOf_45 : decode cX1_tallyOf 45 = .ok (.aload_n 0, 1) := by decide +kernel
theorem dX1_tallyOf_46 : decode cX1_tallyOf 46 = .ok (.getfield 17, 3) := by decide +kernel
theorem dX1_tallyOf_49 : decode cX1_tallyOf 49 = .ok (.iload_n 1, 1) := by decide +kernel
theorem dX1_tallyOf_50 : decode cX1_tallyOf 50 = .ok (.aaload, 1) := by decide +kernel
theorem dX1_tallyOf_51 : decode cX1_tallyOf 51 = .ok (.areturn, 1) := by decide +kernel
theorem dX1_newClosestKeys_0 : decode cX1_newClosestKeys 0 = .ok (.ldc 49, 2) := by decide +kernel
theorem dX1_newClosestKeys_2 : decode cX1_newClosestKeys 2 = .ok (.newarray .int, 2) := by decide +kernel
theorem dX1_newClosestKeys_4 : decode cX1_newClosestKeys 4 = .ok (.astore_n 0, 1) := by decide +kernel
theorem dX1_newClosestKeys_5 : decode cX1_newClosestKeys 5 = .ok (.aload_n 0, 1) := by decide +kernel
theorem dX1_newClosestKeys_6 : decode cX1_newClosestKeys 6 = .ok (.sipush 512, 3) := by decide +kernel
theorem dX1_newClosestKeys_9 : decode cX1_newClosestKeys 9 = .ok (.invokestatic 50, 3) := by decide +kernel
theorem dX1_newClosestKeys_12 : decode cX1_newClosestKeys 12 = .ok (.iconst 0, 1) := by decide +kernel
theorem dX1_newClosestKeys_13 : decode cX1_newClosestKeys 13 = .ok (.istore_n 1, 1) := by decide +kernel
theorem dX1_newClosestKeys_14 : decode cX1_newClosestKeys 14 = .ok (.iload_n 1, 1) := by decide +kernel
theorem dX1_newClosestKeys_15 : decode cX1_newClosestKeys 15 = .ok (.bipush 26, 2) := by decide +kernel
theorem dX1_newClosestKeys_17 : decode cX1_newClosestKeys 17 = .ok (.if_icmp .ge 17, 3) := by decide +kernel
theorem dX1_newClosestKeys_20 : decode cX1_newClosestKeys 20 = .ok (.aload_n 0, 1) := by decide +kernel
theorem dX1_newClosestKeys_21 : decode cX1_newClosestKeys 21 = .ok (.getstatic 43, 3) := by decide +kernel
theorem dX1_newClosestKeys_24 : decode cX1_newClosestKeys 24 = .ok (.iload_n 1, 1) := by decide +kernel
theorem dX1_newClosestKeys_25 : decode cX1_newClosestKeys 25 = .ok (.iaload, 1) := by decide +kernel
theorem dX1_newClosestKeys_26 : decode cX1_newClosestKeys 26 = .ok (.iload_n 1, 1) := by decide +kernel
theorem dX1_newClosestKeys_27 : decode cX1_newClosestKeys 27 = .ok (.iastore, 1) := by decide +kernel
theorem dX1_newClosestKeys_28 : decode cX1_newClosestKeys 28 = .ok (.iinc 1 1, 3) := by decide +kernel
theorem dX1_newClosestKeys_31 : decode cX1_newClosestKeys 31 = .ok (.goto (-17), 3) := by decide +kernel
theorem dX1_newClosestKeys_34 : decode cX1_newClosestKeys 34 = .ok (.iconst 0, 1) := by decide +kernel
theorem dX1_newClosestKeys_35 : decode cX1_newClosestKeys 35 = .ok (.istore_n 1, 1) := by decide +kernel
theorem dX1_newClosestKeys_36 : decode cX1_newClosestKeys 36 = .ok (.iload_n 1, 1) := by decide +kernel
theorem dX1_newClosestKeys_37 : decode cX1_newClosestKeys 37 = .ok (.bipush 15, 2) := by decide +kernel
theorem dX1_newClosestKeys_39 : decode cX1_newClosestKeys 39 = .ok (.if_icmp .ge 16, 3) := by decide +kernel
theorem dX1_newClosestKeys_42 : decode cX1_newClosestKeys 42 = .ok (.aload_n 0, 1) := by decide +kernel
theorem dX1_newClosestKeys_43 : decode cX1_newClosestKeys 43 = .ok (.iconst 1, 1) := by decide +kernel
theorem dX1_newClosestKeys_44 : decode cX1_newClosestKeys 44 = .ok (.iload_n 1, 1) := by decide +kernel
theorem dX1_newClosestKeys_45 : decode cX1_newClosestKeys 45 = .ok (.ishl, 1) := by decide +kernel
theorem dX1_newClosestKeys_46 : decode cX1_newClosestKeys 46 = .ok (.invokestatic 56, 3) := by decide +kernel
theorem dX1_newClosestKeys_49 : decode cX1_newClosestKeys 49 = .ok (.iinc 1 1, 3) := by decide +kernel
theorem dX1_newClosestKeys_52 : decode cX1_newClosestKeys 52 = .ok (.goto (-16), 3) := by decide +kernel
theorem dX1_newClosestKeys_55 : decode cX1_newClosestKeys 55 = .ok (.aload_n 0, 1) := by decide +kernel
theorem dX1_newClosestKeys_56 : decode cX1_newClosestKeys 56 = .ok (.areturn, 1) := by decide +kernel
theorem dX1_passOver_0 : decode cX1_passOver 0 = .ok (.iconst 0, 1) := by decide +kernel
theorem dX1_passOver_1 : decode cX1_passOver 1 = .ok (.istore_n 2, 1) := by decide +kernel
theorem dX1_passOver_2 : decode cX1_passOver 2 = .ok (.iload_n 2, 1) := by decide +kernel
theorem dX1_passOver_3 : decode cX1_passOver 3 = .ok (.sipush 32767, 3) := by decide +kernel
theorem dX1_passOver_6 : decode cX1_passOver 6 = .ok (.if_icmp .gt 51, 3) := by decide +kernel
theorem dX1_passOver_9 : decode cX1_passOver 9 = .ok (.iload_n 2, 1) := by decide +kernel
theorem dX1_passOver_10 : decode cX1_passOver 10 = .ok (.iload_n 1, 1) := by decide +kernel
theorem dX1_passOver_11 : decode cX1_passOver 11 = .ok (.ior, 1) := by decide +kernel
theorem dX1_passOver_12 : decode cX1_passOver 12 = .ok (.istore_n 3, 1) := by decide +kernel
theorem dX1_passOver_13 : decode cX1_passOver 13 = .ok (.iload_n 3, 1) := by decide +kernel
theorem dX1_passOver_14 : decode cX1_passOver 14 = .ok (.iload_n 2, 1) := by decide +kernel
theorem dX1_passOver_15 : decode cX1_passOver 15 = .ok (.if_icmp .eq 36, 3) := by decide +kernel
theorem dX1_passOver_18 : decode cX1_passOver 18 = .ok (.aload_n 0, 1) := by decide +kernel
theorem dX1_passOver_19 : decode cX1_passOver 19 = .ok (.iload_n 2, 1) := by decide +kernel
theorem dX1_passOver_20 : decode cX1_passOver 20 = .ok (.iaload, 1) := by decide +kernel
theorem dX1_passOver_21 : decode cX1_passOver 21 = .ok (.istore 4, 2) := by decide +kernel
theorem dX1_passOver_23 : decode cX1_passOver 23 = .ok (.aload_n 0, 1) := by decide +kernel
theorem dX1_passOver_24 : decode cX1_passOver 24 = .ok (.iload_n 2, 1) := by decide +kernel
theorem dX1_passOver_25 : decode cX1_passOver 25 = .ok (.iload 4, 2) := by decide +kernel
theorem dX1_passOver_27 : decode cX1_passOver 27 = .ok (.aload_n 0, 1) := by decide +kernel
theorem dX1_passOver_28 : decode cX1_passOver 28 = .ok (.iload_n 3, 1) := by decide +kernel
theorem dX1_passOver_29 : decode cX1_passOver 29 = .ok (.iaload, 1) := by decide +kernel
theorem dX1_passOver_30 : decode cX1_passOver 30 = .ok (.bipush 32, 2) := by decide +kernel
theorem dX1_passOver_32 : decode cX1_passOver 32 = .ok (.iadd, 1) := by decide +kernel
theorem dX1_passOver_33 : decode cX1_passOver 33 = .ok (.invokestatic 59, 3) := by decide +kernel
theorem dX1_passOver_36 : decode cX1_passOver 36 = .ok (.iastore, 1) := by decide +kernel
theorem dX1_passOver_37 : decode cX1_passOver 37 = .ok (.aload_n 0, 1) := by decide +kernel
theorem dX1_passOver_38 : decode cX1_passOver 38 = .ok (.iload_n 3, 1) := by decide +kernel
theorem dX1_passOver_39 : decode cX1_passOver 39 = .ok (.aload_n 0, 1) := by decide +kernel
theorem dX1_passOver_40 : decode cX1_passOver 40 = .ok (.iload_n 3, 1) := by decide +kernel
theorem dX1_passOver_41 : decode cX1_passOver 41 = .ok (.iaload, 1) := by decide +kernel
theorem dX1_passOver_42 : decode cX1_passOver 42 = .ok (.iload 4, 2) := by decide +kernel
theorem dX1_passOver_44 : decode cX1_passOver 44 = .ok (.bipush 32, 2) := by decide +kernel
theorem dX1_passOver_46 : decode cX1_passOver 46 = .ok (.iadd, 1) := by decide +kernel
theorem dX1_passOver_47 : decode cX1_passOver 47 = .ok (.invokestatic 59, 3) := by decide +kernel
theorem dX1_passOver_50 : decode cX1_passOver 50 = .ok (.iastore, 1) := by decide +kernel
theorem dX1_passOver_51 : decode cX1_passOver 51 = .ok (.iinc 2 1, 3) := by decide +kernel
theorem dX1_passOver_54 : decode cX1_passOver 54 = .ok (.goto (-52), 3) := by decide +kernel
theorem dX1_passOver_57 : decode cX1_passOver 57 = .ok (.return_, 1) := by decide +kernel
theorem dX2_init_0 : decode cX2_init 0 = .ok (.aload_n 0, 1) := by decide +kernel
theorem dX2_init_1 : decode cX2_init 1 = .ok (.invokespecial 3, 3) := by decide +kernel
theorem dX2_init_4 : decode cX2_init 4 = .ok (.aload_n 0, 1) := by decide +kernel
theorem dX2_init_5 : decode cX2_init 5 = .ok (.bipush 9, 2) := by decide +kernel
theorem dX2_init_7 : decode cX2_init 7 = .ok (.bipush 10, 2) := by decide +kernel
theorem dX2_init_9 : decode cX2_init 9 = .ok (.multianewarray 9 2, 4) := by decide +kernel
theorem dX2_init_13 : decode cX2_init 13 = .ok (.putfield 11, 3) := by decide +kernel
theorem dX2_init_16 : decode cX2_init 16 = .ok (.aload_n 0, 1) := by decide +kernel
theorem dX2_init_17 : decode cX2_init 17 = .ok (.bipush 10, 2) := by decide +kernel
theorem dX2_init_19 : decode cX2_init 19 = .ok (.newarray .int, 2) := by decide +kernel
theorem dX2_init_21 : decode cX2_init 21 = .ok (.putfield 16, 3) := by decide +kernel
theorem dX2_init_24 : decode cX2_init 24 = .ok (.aload_n 0, 1) := by decide +kernel
theorem dX2_init_25 : decode cX2_init 25 = .ok (.bipush 9, 2) := by decide +kernel
theorem dX2_init_27 : decode cX2_init 27 = .ok (.newarray .int, 2) := by decide +kernel
theorem dX2_init_29 : decode cX2_init 29 = .ok (.putfield 20, 3) := by decide +kernel
theorem dX2_init_32 : decode cX2_init 32 = .ok (.aload_n 0, 1) := by decide +kernel
theorem dX2_init_33 : decode cX2_init 33 = .ok (.iconst 0, 1) := by decide +kernel
theorem dX2_init_34 : decode cX2_init 34 = .ok (.putfield 23, 3) := by decide +kernel
theorem dX2_init_37 : decode cX2_init 37 = .ok (.return_, 1) := by decide +kernel
theorem dX2_weighWritten_0 : decode cX2_weighWritten 0 = .ok (.iconst 0, 1) := by decide +kernel
theorem dX2_weighWritten_1 : decode cX2_weighWritten 1 = .ok (.istore_n 2, 1) := by decide +kernel
theorem dX2_weighWritten_2 : decode cX2_weighWritten 2 = .ok (.iload_n 2, 1) := by decide +kernel
theorem dX2_weighWritten_3 : decode cX2_weighWritten 3 = .ok (.aload_n 1, 1) := by decide +kernel
theorem dX2_weighWritten_4 : decode cX2_weighWritten 4 = .ok (.getfield 27, 3) := by decide +kernel
theorem dX2_weighWritten_7 : decode cX2_weighWritten 7 = .ok (.if_icmp .ge 62, 3) := by decide +kernel
theorem dX2_weighWritten_10 : decode cX2_weighWritten 10 = .ok (.iconst 0, 1) := by decide +kernel
theorem dX2_weighWritten_11 : decode cX2_weighWritten 11 = .ok (.istore_n 3, 1) := by decide +kernel
theorem dX2_weighWritten_12 : decode cX2_weighWritten 12 = .ok (.iload_n 3, 1) := by decide +kernel
theorem dX2_weighWritten_13 : decode cX2_weighWritten 13 = .ok (.aload_n 1, 1) := by decide +kernel
theorem dX2_weighWritten_14 : decode cX2_weighWritten 14 = .ok (.getfield 32, 3) := by decide +kernel
theorem dX2_weighWritten_17 : decode cX2_weighWritten 17 = .ok (.if_icmp .ge 46, 3) := by decide +kernel
theorem dX2_weighWritten_20 : decode cX2_weighWritten 20 = .ok (.aload_n 1, 1) := by decide +kernel
theorem dX2_weighWritten_21 : decode cX2_weighWritten 21 = .ok (.getfield 35, 3) := by decide +kernel
theorem dX2_weighWritten_24 : decode cX2_weighWritten 24 = .ok (.iload_n 3, 1) := by decide +kernel
theorem dX2_weighWritten_25 : decode cX2_weighWritten 25 = .ok (.aaload, 1) := by decide +kernel
theorem dX2_weighWritten_26 : decode cX2_weighWritten 26 = .ok (.astore 4, 2) := by decide +kernel
theorem dX2_weighWritten_28 : decode cX2_weighWritten 28 = .ok (.aload_n 0, 1) := by decide +kernel
theorem dX2_weighWritten_29 : decode cX2_weighWritten 29 = .ok (.getfield 11, 3) := by decide +kernel
theorem dX2_weighWritten_32 : decode cX2_weighWritten 32 = .ok (.iload_n 2, 1) := by decide +kernel
theorem dX2_weighWritten_33 : decode cX2_weighWritten 33 = .ok (.aaload, 1) := by decide +kernel
theorem dX2_weighWritten_34 : decode cX2_weighWritten 34 = .ok (.iload_n 3, 1) := by decide +kernel
theorem dX2_weighWritten_35 : decode cX2_weighWritten 35 = .ok (.aload_n 1, 1) := by decide +kernel
theorem dX2_weighWritten_36 : decode cX2_weighWritten 36 = .ok (.aload 4, 2) := by decide +kernel
theorem dX2_weighWritten_38 : decode cX2_weighWritten 38 = .ok (.iload_n 2, 1) := by decide +kernel
theorem dX2_weighWritten_39 : decode cX2_weighWritten 39 = .ok (.iconst 0, 1) := by decide +kernel
theorem dX2_weighWritten_40 : decode cX2_weighWritten 40 = .ok (.invokevirtual 39, 3) := by decide +kernel
theorem dX2_weighWritten_43 : decode cX2_weighWritten 43 = .ok (.ifCond .eq 11, 3) := by decide +kernel
theorem dX2_weighWritten_46 : decode cX2_weighWritten 46 = .ok (.aload 4, 2) := by decide +kernel
theorem dX2_weighWritten_48 : decode cX2_weighWritten 48 = .ok (.getfield 43, 3) := by decide +kernel
theorem dX2_weighWritten_51 : decode cX2_weighWritten 51 = .ok (.goto 5, 3) := by decide +kernel
theorem dX2_weighWritten_54 : decode cX2_weighWritten 54 = .ok (.ldc 48, 2) := by decide +kernel
theorem dX2_weighWritten_56 : decode cX2_weighWritten 56 = .ok (.iastore, 1) := by decide +kernel
theorem dX2_weighWritten_57 : decode cX2_weighWritten 57 = .ok (.iinc 3 1, 3) := by decide +kernel
theorem dX2_weighWritten_60 : decode cX2_weighWritten 60 = .ok (.goto (-48), 3) := by decide +kernel
theorem dX2_weighWritten_63 : decode cX2_weighWritten 63 = .ok (.iinc 2 1, 3) := by decide +kernel
theorem dX2_weighWritten_66 : decode cX2_weighWritten 66 = .ok (.goto (-64), 3) := by decide +kernel
theorem dX2_weighWritten_69 : decode cX2_weighWritten 69 = .ok (.return_, 1) := by decide +kernel
theorem dX2_weighAllowed_0 : decode cX2_weighAllowed 0 = .ok (.iconst 0, 1) := by decide +kernel
theorem dX2_weighAllowed_1 : decode cX2_weighAllowed 1 = .ok (.istore_n 2, 1) := by decide +kernel
theorem dX2_weighAllowed_2 : decode cX2_weighAllowed 2 = .ok (.iload_n 2, 1) := by decide +kernel
theorem dX2_weighAllowed_3 : decode cX2_weighAllowed 3 = .ok (.aload_n 1, 1) := by decide +kernel
theorem dX2_weighAllowed_4 : decode cX2_weighAllowed 4 = .ok (.getfield 27, 3) := by decide +kernel
theorem dX2_weighAllowed_7 : decode cX2_weighAllowed 7 = .ok (.if_icmp .ge 69, 3) := by decide +kernel
theorem dX2_weighAllowed_10 : decode cX2_weighAllowed 10 = .ok (.iconst 0, 1) := by decide +kernel
theorem dX2_weighAllowed_11 : decode cX2_weighAllowed 11 = .ok (.istore_n 3, 1) := by decide +kernel
theorem dX2_weighAllowed_12 : decode cX2_weighAllowed 12 = .ok (.iload_n 3, 1) := by decide +kernel
theorem dX2_weighAllowed_13 : decode cX2_weighAllowed 13 = .ok (.aload_n 1, 1) := by decide +kernel
theorem dX2_weighAllowed_14 : decode cX2_weighAllowed 14 = .ok (.getfield 32, 3) := by decide +kernel
theorem dX2_weighAllowed_17 : decode cX2_weighAllowed 17 = .ok (.if_icmp .ge 53, 3) := by decide +kernel
theorem dX2_weighAllowed_20 : decode cX2_weighAllowed 20 = .ok (.aload_n 1, 1) := by decide +kernel
theorem dX2_weighAllowed_21 : decode cX2_weighAllowed 21 = .ok (.getfield 35, 3) := by decide +kernel
theorem dX2_weighAllowed_24 : decode cX2_weighAllowed 24 = .ok (.iload_n 3, 1) := by decide +kernel
theorem dX2_weighAllowed_25 : decode cX2_weighAllowed 25 = .ok (.aaload, 1) := by decide +kernel
theorem dX2_weighAllowed_26 : decode cX2_weighAllowed 26 = .ok (.astore 4, 2) := by decide +kernel
theorem dX2_weighAllowed_28 : decode cX2_weighAllowed 28 = .ok (.aload_n 0, 1) := by decide +kernel
theorem dX2_weighAllowed_29 : decode cX2_weighAllowed 29 = .ok (.getfield 11, 3) := by decide +kernel
theorem dX2_weighAllowed_32 : decode cX2_weighAllowed 32 = .ok (.iload_n 2, 1) := by decide +kernel
theorem dX2_weighAllowed_33 : decode cX2_weighAllowed 33 = .ok (.aaload, 1) := by decide +kernel
theorem dX2_weighAllowed_34 : decode cX2_weighAllowed 34 = .ok (.iload_n 3, 1) := by decide +kernel
theorem dX2_weighAllowed_35 : decode cX2_weighAllowed 35 = .ok (.aload_n 1, 1) := by decide +kernel
theorem dX2_weighAllowed_36 : decode cX2_weighAllowed 36 = .ok (.aload 4, 2) := by decide +kernel
theorem dX2_weighAllowed_38 : decode cX2_weighAllowed 38 = .ok (.iload_n 2, 1) := by decide +kernel
theorem dX2_weighAllowed_39 : decode cX2_weighAllowed 39 = .ok (.invokevirtual 49, 3) := by decide +kernel
theorem dX2_weighAllowed_42 : decode cX2_weighAllowed 42 = .ok (.ifCond .eq 19, 3) := by decide +kernel
theorem dX2_weighAllowed_45 : decode cX2_weighAllowed 45 = .ok (.aload 4, 2) := by decide +kernel
theorem dX2_weighAllowed_47 : decode cX2_weighAllowed 47 = .ok (.getfield 43, 3) := by decide +kernel
theorem dX2_weighAllowed_50 : decode cX2_weighAllowed 50 = .ok (.aload_n 1, 1) := by decide +kernel
theorem dX2_weighAllowed_51 : decode cX2_weighAllowed 51 = .ok (.aload 4, 2) := by decide +kernel
theorem dX2_weighAllowed_53 : decode cX2_weighAllowed 53 = .ok (.iload_n 2, 1) := by decide +kernel
theorem dX2_weighAllowed_54 : decode cX2_weighAllowed 54 = .ok (.invokevirtual 53, 3) := by decide +kernel
theorem dX2_weighAllowed_57 : decode cX2_weighAllowed 57 = .ok (.isub, 1) := by decide +kernel
theorem dX2_weighAllowed_58 : decode cX2_weighAllowed 58 = .ok (.goto 5, 3) := by decide +kernel
theorem dX2_weighAllowed_61 : decode cX2_weighAllowed 61 = .ok (.ldc 48, 2) := by decide +kernel
theorem dX2_weighAllowed_63 : decode cX2_weighAllowed 63 = .ok (.iastore, 1) := by decide +kernel
theorem dX2_weighAllowed_64 : decode cX2_weighAllowed 64 = .ok (.iinc 3 1, 3) := by decide +kernel
theorem dX2_weighAllowed_67 : decode cX2_weighAllowed 67 = .ok (.goto (-55), 3) := by decide +kernel
theorem dX2_weighAllowed_70 : decode cX2_weighAllowed 70 = .ok (.iinc 2 1, 3) := by decide +kernel
theorem dX2_weighAllowed_73 : decode cX2_weighAllowed 73 = .ok (.goto (-71), 3) := by decide +kernel
theorem dX2_weighAllowed_76 : decode cX2_weighAllowed 76 = .ok (.return_, 1) := by decide +kernel
theorem dX2_choose_0 : decode cX2_choose 0 = .ok (.aload_n 0, 1) := by decide +kernel
theorem dX2_choose_1 : decode cX2_choose 1 = .ok (.aload_n 1, 1) := by decide +kernel
theorem dX2_choose_2 : decode cX2_choose 2 = .ok (.invokevirtual 57, 3) := by decide +kernel
theorem dX2_choose_5 : decode cX2_choose 5 = .ok (.aload_n 0, 1) := by decide +kernel
theorem dX2_choose_6 : decode cX2_choose 6 = .ok (.iconst 0, 1) := by decide +kernel
theorem dX2_choose_7 : decode cX2_choose 7 = .ok (.putfield 23, 3) := by decide +kernel
theorem dX2_choose_10 : decode cX2_choose 10 = .ok (.iconst 0, 1) := by decide +kernel
theorem dX2_choose_11 : decode cX2_choose 11 = .ok (.istore_n 2, 1) := by decide +kernel
theorem dX2_choose_12 : decode cX2_choose 12 = .ok (.iconst 0, 1) := by decide +kernel
theorem dX2_choose_13 : decode cX2_choose 13 = .ok (.istore_n 3, 1) := by decide +kernel
theorem dX2_choose_14 : decode cX2_choose 14 = .ok (.iload_n 3, 1) := by decide +kernel
theorem dX2_choose_15 : decode cX2_choose 15 = .ok (.aload_n 1, 1) := by decide +kernel
theorem dX2_choose_16 : decode cX2_choose 16 = .ok (.getfield 27, 3) := by decide +kernel
theorem dX2_choose_19 : decode cX2_choose 19 = .ok (.if_icmp .ge 73, 3) := by decide +kernel
theorem dX2_choose_22 : decode cX2_choose 22 = .ok (.iload_n 3, 1) := by decide +kernel
theorem dX2_choose_23 : decode cX2_choose 23 = .ok (.iload_n 2, 1) := by decide +kernel
theorem dX2_choose_24 : decode cX2_choose 24 = .ok (.if_icmp .ge 8, 3) := by decide +kernel
theorem dX2_choose_27 : decode cX2_choose 27 = .ok (.bipush (-4), 2) := by decide +kernel
theorem dX2_choose_29 : decode cX2_choose 29 = .ok (.goto 9, 3) := by decide +kernel
theorem dX2_choose_32 : decode cX2_choose 32 = .ok (.aload_n 0, 1) := by decide +kernel
theorem dX2_choose_33 : decode cX2_choose 33 = .ok (.aload_n 1, 1) := by decide +kernel
theorem dX2_choose_34 : decode cX2_choose 34 = .ok (.iload_n 3, 1) := by decide +kernel
theorem dX2_choose_35 : decode cX2_choose 35 = .ok (.invokevirtual 61, 3) := by decide +kernel
theorem dX2_choose_38 : decode cX2_choose 38 = .ok (.istore 4, 2) := by decide +kernel
theorem dX2_choose_40 : decode cX2_choose 40 = .ok (.iload 4, 2) := by decide +kernel
theorem dX2_choose_42 : decode cX2_choose 42 = .ok (.bipush (-4), 2) := by decide +kernel
theorem dX2_choose_44 : decode cX2_choose 44 = .ok (.if_icmp .eq 42, 3) := by decide +kernel
theorem dX2_choose_47 : decode cX2_choose 47 = .ok (.aload_n 0, 1) := by decide +kernel
theorem dX2_choose_48 : decode cX2_choose 48 = .ok (.getfield 20, 3) := by decide +kernel
theorem dX2_choose_51 : decode cX2_choose 51 = .ok (.aload_n 0, 1) := by decide +kernel
theorem dX2_choose_52 : decode cX2_choose 52 = .ok (.getfield 23, 3) := by decide +kernel
theorem dX2_choose_55 : decode cX2_choose 55 = .ok (.bipush 10, 2) := by decide +kernel
theorem dX2_choose_57 : decode cX2_choose 57 = .ok (.iload_n 3, 1) := by decide +kernel
theorem dX2_choose_58 : decode cX2_choose 58 = .ok (.imul, 1) := by decide +kernel
theorem dX2_choose_59 : decode cX2_choose 59 = .ok (.iload 4, 2) := by decide +kernel
theorem dX2_choose_61 : decode cX2_choose 61 = .ok (.iadd, 1) := by decide +kernel
theorem dX2_choose_62 : decode cX2_choose 62 = .ok (.iastore, 1) := by decide +kernel
theorem dX2_choose_63 : decode cX2_choose 63 = .ok (.aload_n 0, 1) := by decide +kernel
theorem dX2_choose_64 : decode cX2_choose 64 = .ok (.dup, 1) := by decide +kernel
theorem dX2_choose_65 : decode cX2_choose 65 = .ok (.getfield 23, 3) := by decide +kernel
theorem dX2_choose_68 : decode cX2_choose 68 = .ok (.iconst 1, 1) := by decide +kernel
theorem dX2_choose_69 : decode cX2_choose 69 = .ok (.iadd, 1) := by decide +kernel
theorem dX2_choose_70 : decode cX2_choose 70 = .ok (.putfield 23, 3) := by decide +kernel
theorem dX2_choose_73 : decode cX2_choose 73 = .ok (.iload_n 3, 1) := by decide +kernel
theorem dX2_choose_74 : decode cX2_choose 74 = .ok (.aload_n 1, 1) := by decide +kernel
theorem dX2_choose_75 : decode cX2_choose 75 = .ok (.getfield 35, 3) := by decide +kernel
theorem dX2_choose_78 : decode cX2_choose 78 = .ok (.iload 4, 2) := by decide +kernel
theorem dX2_choose_80 : decode cX2_choose 80 = .ok (.aaload, 1) := by decide +kernel
theorem dX2_choose_81 : decode cX2_choose 81 = .ok (.getfield 65, 3) := by decide +kernel
theorem dX2_choose_84 : decode cX2_choose 84 = .ok (.iadd, 1) := by decide +kernel
theorem dX2_choose_85 : decode cX2_choose 85 = .ok (.istore_n 2, 1) := by decide +kernel
theorem dX2_choose_86 : decode cX2_choose 86 = .ok (.iinc 3 1, 3) := by decide +kernel
theorem dX2_choose_89 : decode cX2_choose 89 = .ok (.goto (-75), 3) := by decide +kernel
theorem dX2_choose_92 : decode cX2_choose 92 = .ok (.return_, 1) := by decide +kernel
theorem dX2_answer_0 : decode cX2_answer 0 = .ok (.iload_n 1, 1) := by decide +kernel
theorem dX2_answer_1 : decode cX2_answer 1 = .ok (.iconst (-1), 1) := by decide +kernel
theorem dX2_answer_2 : decode cX2_answer 2 = .ok (.if_icmp .ne 10, 3) := by decide +kernel
theorem dX2_answer_5 : decode cX2_answer 5 = .ok (.aload_n 0, 1) := by decide +kernel
theorem dX2_answer_6 : decode cX2_answer 6 = .ok (.getfield 16, 3) := by decide +kernel
theorem dX2_answer_9 : decode cX2_answer 9 = .ok (.iconst 0, 1) := by decide +kernel
theorem dX2_answer_10 : decode cX2_answer 10 = .ok (.iaload, 1) := by decide +kernel
theorem dX2_answer_11 : decode cX2_answer 11 = .ok (.ireturn, 1) := by decide +kernel
theorem dX2_answer_12 : decode cX2_answer 12 = .ok (.iload_n 1, 1) := by decide +kernel
theorem dX2_answer_13 : decode cX2_answer 13 = .ok (.bipush (-2), 2) := by decide +kernel
theorem dX2_answer_15 : decode cX2_answer 15 = .ok (.if_icmp .ne 8, 3) := by decide +kernel
theorem dX2_answer_18 : decode cX2_answer 18 = .ok (.aload_n 0, 1) := by decide +kernel
theorem dX2_answer_19 : decode cX2_answer 19 = .ok (.getfield 23, 3) := by decide +kernel
theorem dX2_answer_22 : decode cX2_answer 22 = .ok (.ireturn, 1) := by decide +kernel
theorem dX2_answer_23 : decode cX2_answer 23 = .ok (.iload_n 1, 1) := by decide +kernel
theorem dX2_answer_24 : decode cX2_answer 24 = .ok (.aload_n 0, 1) := by decide +kernel
theorem dX2_answer_25 : decode cX2_answer 25 = .ok (.getfield 23, 3) := by decide +kernel
theorem dX2_answer_28 : decode cX2_answer 28 = .ok (.invokestatic 66, 3) := by decide +kernel
theorem dX2_answer_31 : decode cX2_answer 31 = .ok (.ifCond .eq 12, 3) := by decide +kernel
theorem dX2_answer_34 : decode cX2_answer 34 = .ok (.aload_n 0, 1) := by decide +kernel
theorem dX2_answer_35 : decode cX2_answer 35 = .ok (.getfield 20, 3) := by decide +kernel
theorem dX2_answer_38 : decode cX2_answer 38 = .ok (.iload_n 1, 1) := by decide +kernel
theorem dX2_answer_39 : decode cX2_answer 39 = .ok (.iaload, 1) := by decide +kernel
theorem dX2_answer_40 : decode cX2_answer 40 = .ok (.goto 5, 3) := by decide +kernel
theorem dX2_answer_43 : decode cX2_answer 43 = .ok (.bipush (-4), 2) := by decide +kernel
theorem dX2_answer_45 : decode cX2_answer 45 = .ok (.ireturn, 1) := by decide +kernel
theorem dX2_sumUp_0 : decode cX2_sumUp 0 = .ok (.aload_n 0, 1) := by decide +kernel
theorem dX2_sumUp_1 : decode cX2_sumUp 1 = .ok (.getfield 16, 3) := by decide +kernel
theorem dX2_sumUp_4 : decode cX2_sumUp 4 = .ok (.aload_n 1, 1) := by decide +kernel
theorem dX2_sumUp_5 : decode cX2_sumUp 5 = .ok (.getfield 27, 3) := by decide +kernel
theorem dX2_sumUp_8 : decode cX2_sumUp 8 = .ok (.iconst 0, 1) := by decide +kernel
theorem dX2_sumUp_9 : decode cX2_sumUp 9 = .ok (.iastore, 1) := by decide +kernel
theorem dX2_sumUp_10 : decode cX2_sumUp 10 = .ok (.aload_n 1, 1) := by decide +kernel
theorem dX2_sumUp_11 : decode cX2_sumUp 11 = .ok (.getfield 27, 3) := by decide +kernel
theorem dX2_sumUp_14 : decode cX2_sumUp 14 = .ok (.iconst 1, 1) := by decide +kernel
theorem dX2_sumUp_15 : decode cX2_sumUp 15 = .ok (.isub, 1) := by decide +kernel
theorem dX2_sumUp_16 : decode cX2_sumUp 16 = .ok (.istore_n 2, 1) := by decide +kernel
theorem dX2_sumUp_17 : decode cX2_sumUp 17 = .ok (.iload_n 2, 1) := by decide +kernel
theorem dX2_sumUp_18 : decode cX2_sumUp 18 = .ok (.ifCond .lt 74, 3) := by decide +kernel
theorem dX2_sumUp_21 : decode cX2_sumUp 21 = .ok (.aload_n 0, 1) := by decide +kernel
theorem dX2_sumUp_22 : decode cX2_sumUp 22 = .ok (.getfield 16, 3) := by decide +kernel
theorem dX2_sumUp_25 : decode cX2_sumUp 25 = .ok (.iload_n 2, 1) := by decide +kernel
theorem dX2_sumUp_26 : decode cX2_sumUp 26 = .ok (.aload_n 0, 1) := by decide +kernel
theorem dX2_sumUp_27 : decode cX2_sumUp 27 = .ok (.getfield 16, 3) := by decide +kernel
theorem dX2_sumUp_30 : decode cX2_sumUp 30 = .ok (.iload_n 2, 1) := by decide +kernel
theorem dX2_sumUp_31 : decode cX2_sumUp 31 = .ok (.iconst 1, 1) := by decide +kernel
theorem dX2_sumUp_32 : decode cX2_sumUp 32 = .ok (.iadd, 1) := by decide +kernel
theorem dX2_sumUp_33 : decode cX2_sumUp 33 = .ok (.iaload, 1) := by decide +kernel
theorem dX2_sumUp_34 : decode cX2_sumUp 34 = .ok (.iastore, 1) := by decide +kernel
theorem dX2_sumUp_35 : decode cX2_sumUp 35 = .ok (.iconst 0, 1) := by decide +kernel
theorem dX2_sumUp_36 : decode cX2_sumUp 36 = .ok (.istore_n 3, 1) := by decide +kernel
theorem dX2_sumUp_37 : decode cX2_sumUp 37 = .ok (.iload_n 3, 1) := by decide +kernel
theorem dX2_sumUp_38 : decode cX2_sumUp 38 = .ok (.aload_n 1, 1) := by decide +kernel
theorem dX2_sumUp_39 : decode cX2_sumUp 39 = .ok (.getfield 32, 3) := by decide +kernel
theorem dX2_sumUp_42 : decode cX2_sumUp 42 = .ok (.if_icmp .ge 44, 3) := by decide +kernel
theorem dX2_sumUp_45 : decode cX2_sumUp 45 = .ok (.aload_n 0, 1) := by decide +kernel
theorem dX2_sumUp_46 : decode cX2_sumUp 46 = .ok (.getfield 11, 3) := by decide +kernel
theorem dX2_sumUp_49 : decode cX2_sumUp 49 = .ok (.iload_n 2, 1) := by decide +kernel
theorem dX2_sumUp_50 : decode cX2_sumUp 50 = .ok (.aaload, 1) := by decide +kernel
theorem dX2_sumUp_51 : decode cX2_sumUp 51 = .ok (.iload_n 3, 1) := by decide +kernel
theorem dX2_sumUp_52 : decode cX2_sumUp 52 = .ok (.iaload, 1) := by decide +kernel
theorem dX2_sumUp_53 : decode cX2_sumUp 53 = .ok (.ldc 48, 2) := by decide +kernel
theorem dX2_sumUp_55 : decode cX2_sumUp 55 = .ok (.if_icmp .eq 25, 3) := by decide +kernel
theorem dX2_sumUp_58 : decode cX2_sumUp 58 = .ok (.aload_n 0, 1) := by decide +kernel
theorem dX2_sumUp_59 : decode cX2_sumUp 59 = .ok (.getfield 16, 3) := by decide +kernel
theorem dX2_sumUp_62 : decode cX2_sumUp 62 = .ok (.iload_n 2, 1) := by decide +kernel
theorem dX2_sumUp_63 : decode cX2_sumUp 63 = .ok (.aload_n 0, 1) := by decide +kernel
theorem dX2_sumUp_64 : decode cX2_sumUp 64 = .ok (.getfield 16, 3) := by decide +kernel
theorem dX2_sumUp_67 : decode cX2_sumUp 67 = .ok (.iload_n 2, 1) := by decide +kernel
theorem dX2_sumUp_68 : decode cX2_sumUp 68 = .ok (.iaload, 1) := by decide +kernel
theorem dX2_sumUp_69 : decode cX2_sumUp 69 = .ok (.aload_n 0, 1) := by decide +kernel
theorem dX2_sumUp_70 : decode cX2_sumUp 70 = .ok (.aload_n 1, 1) := by decide +kernel
theorem dX2_sumUp_71 : decode cX2_sumUp 71 = .ok (.iload_n 2, 1) := by decide +kernel
theorem dX2_sumUp_72 : decode cX2_sumUp 72 = .ok (.iload_n 3, 1) := by decide +kernel
theorem dX2_sumUp_73 : decode cX2_sumUp 73 = .ok (.invokevirtual 70, 3) := by decide +kernel
theorem dX2_sumUp_76 : decode cX2_sumUp 76 = .ok (.invokestatic 74, 3) := by decide +kernel
theorem dX2_sumUp_79 : decode cX2_sumUp 79 = .ok (.iastore, 1) := by decide +kernel
theorem dX2_sumUp_80 : decode cX2_sumUp 80 = .ok (.iinc 3 1, 3) := by decide +kernel
theorem dX2_sumUp_83 : decode cX2_sumUp 83 = .ok (.goto (-46), 3) := by decide +kernel
theorem dX2_sumUp_86 : decode cX2_sumUp 86 = .ok (.iinc 2 (-1), 3) := by decide +kernel
theorem dX2_sumUp_89 : decode cX2_sumUp 89 = .ok (.goto (-72), 3) := by decide +kernel
theorem dX2_sumUp_92 : decode cX2_sumUp 92 = .ok (.return_, 1) := by decide +kernel
theorem dX2_mostBy_0 : decode cX2_mostBy 0 = .ok (.aload_n 0, 1) := by decide +kernel
theorem dX2_mostBy_1 : decode cX2_mostBy 1 = .ok (.getfield 11, 3) := by decide +kernel
theorem dX2_mostBy_4 : decode cX2_mostBy 4 = .ok (.iload_n 2, 1) := by decide +kernel
theorem dX2_mostBy_5 : decode cX2_mostBy 5 = .ok (.aaload, 1) := by decide +kernel
theorem dX2_mostBy_6 : decode cX2_mostBy 6 = .ok (.iload_n 3, 1) := by decide +kernel
theorem dX2_mostBy_7 : decode cX2_mostBy 7 = .ok (.iaload, 1) := by decide +kernel
theorem dX2_mostBy_8 : decode cX2_mostBy 8 = .ok (.aload_n 0, 1) := by decide +kernel
theorem dX2_mostBy_9 : decode cX2_mostBy 9 = .ok (.getfield 16, 3) := by decide +kernel
theorem dX2_mostBy_12 : decode cX2_mostBy 12 = .ok (.iload_n 2, 1) := by decide +kernel
theorem dX2_mostBy_13 : decode cX2_mostBy 13 = .ok (.aload_n 1, 1) := by decide +kernel
theorem dX2_mostBy_14 : decode cX2_mostBy 14 = .ok (.getfield 35, 3) := by decide +kernel
theorem dX2_mostBy_17 : decode cX2_mostBy 17 = .ok (.iload_n 3, 1) := by decide +kernel
theorem dX2_mostBy_18 : decode cX2_mostBy 18 = .ok (.aaload, 1) := by decide +kernel
theorem dX2_mostBy_19 : decode cX2_mostBy 19 = .ok (.getfield 65, 3) := by decide +kernel
theorem dX2_mostBy_22 : decode cX2_mostBy 22 = .ok (.iadd, 1) := by decide +kernel
theorem dX2_mostBy_23 : decode cX2_mostBy 23 = .ok (.iaload, 1) := by decide +kernel
theorem dX2_mostBy_24 : decode cX2_mostBy 24 = .ok (.iadd, 1) := by decide +kernel
theorem dX2_mostBy_25 : decode cX2_mostBy 25 = .ok (.ireturn, 1) := by decide +kernel
theorem dX2_firstForMost_0 : decode cX2_firstForMost 0 = .ok (.iconst 0, 1) := by decide +kernel
theorem dX2_firstForMost_1 : decode cX2_firstForMost 1 = .ok (.istore_n 3, 1) := by decide +kernel
theorem dX2_firstForMost_2 : decode cX2_firstForMost 2 = .ok (.iload_n 3, 1) := by decide +kernel
theorem dX2_firstForMost_3 : decode cX2_firstForMost 3 = .ok (.aload_n 1, 1) := by decide +kernel
theorem dX2_firstForMost_4 : decode cX2_firstForMost 4 = .ok (.getfield 32, 3) := by decide +kernel
theorem dX2_firstForMost_7 : decode cX2_firstForMost 7 = .ok (.if_icmp .ge 40, 3) := by decide +kernel
theorem dX2_firstForMost_10 : decode cX2_firstForMost 10 = .ok (.aload_n 0, 1) := by decide +kernel
theorem dX2_firstForMost_11 : decode cX2_firstForMost 11 = .ok (.getfield 11, 3) := by decide +kernel
theorem dX2_firstForMost_14 : decode cX2_firstForMost 14 = .ok (.iload_n 2, 1) := by decide +kernel
theorem dX2_firstForMost_15 : decode cX2_firstForMost 15 = .ok (.aaload, 1) := by decide +kernel
theorem dX2_firstForMost_16 : decode cX2_firstForMost 16 = .ok (.iload_n 3, 1) := by decide +kernel
theorem dX2_firstForMost_17 : decode cX2_firstForMost 17 = .ok (.iaload, 1) := by decide +kernel
theorem dX2_firstForMost_18 : decode cX2_firstForMost 18 = .ok (.ldc 48, 2) := by decide +kernel
theorem dX2_firstForMost_20 : decode cX2_firstForMost 20 = .ok (.if_icmp .eq 21, 3) := by decide +kernel
theorem dX2_firstForMost_23 : decode cX2_firstForMost 23 = .ok (.aload_n 0, 1) := by decide +kernel
theorem dX2_firstForMost_24 : decode cX2_firstForMost 24 = .ok (.aload_n 1, 1) := by decide +kernel
theorem dX2_firstForMost_25 : decode cX2_firstForMost 25 = .ok (.iload_n 2, 1) := by decide +kernel
theorem dX2_firstForMost_26 : decode cX2_firstForMost 26 = .ok (.iload_n 3, 1) := by decide +kernel
theorem dX2_firstForMost_27 : decode cX2_firstForMost 27 = .ok (.invokevirtual 70, 3) := by decide +kernel
theorem dX2_firstForMost_30 : decode cX2_firstForMost 30 = .ok (.aload_n 0, 1) := by decide +kernel
theorem dX2_firstForMost_31 : decode cX2_firstForMost 31 = .ok (.getfield 16, 3) := by decide +kernel
theorem dX2_firstForMost_34 : decode cX2_firstForMost 34 = .ok (.iload_n 2, 1) := by decide +kernel
theorem dX2_firstForMost_35 : decode cX2_firstForMost 35 = .ok (.iaload, 1) := by decide +kernel
theorem dX2_firstForMost_36 : decode cX2_firstForMost 36 = .ok (.if_icmp .ne 5, 3) := by decide +kernel
theorem dX2_firstForMost_39 : decode cX2_firstForMost 39 = .ok (.iload_n 3, 1) := by decide +kernel
theorem dX2_firstForMost_40 : decode cX2_firstForMost 40 = .ok (.ireturn, 1) := by decide +kernel
theorem dX2_firstForMost_41 : decode cX2_firstForMost 41 = .ok (.iinc 3 1, 3) := by decide +kernel
theorem dX2_firstForMost_44 : decode cX2_firstForMost 44 = .ok (.goto (-42), 3) := by decide +kernel
theorem dX2_firstForMost_47 : decode cX2_firstForMost 47 = .ok (.bipush (-4), 2) := by decide +kernel
theorem dX2_firstForMost_49 : decode cX2_firstForMost 49 = .ok (.ireturn, 1) := by decide +kernel
theorem dX3_init_0 : decode cX3_init 0 = .ok (.aload_n 0, 1) := by decide +kernel
theorem dX3_init_1 : decode cX3_init 1 = .ok (.invokespecial 3, 3) := by decide +kernel
theorem dX3_init_4 : decode cX3_init 4 = .ok (.aload_n 0, 1) := by decide +kernel
theorem dX3_init_5 : decode cX3_init 5 = .ok (.iconst (-1), 1) := by decide +kernel
theorem dX3_init_6 : decode cX3_init 6 = .ok (.putfield 9, 3) := by decide +kernel
theorem dX3_init_9 : decode cX3_init 9 = .ok (.aload_n 0, 1) := by decide +kernel
theorem dX3_init_10 : decode cX3_init 10 = .ok (.iconst 0, 1) := by decide +kernel
theorem dX3_init_11 : decode cX3_init 11 = .ok (.putfield 15, 3) := by decide +kernel
theorem dX3_init_14 : decode cX3_init 14 = .ok (.aload_n 0, 1) := by decide +kernel
theorem dX3_init_15 : decode cX3_init 15 = .ok (.bipush 24, 2) := by decide +kernel
theorem dX3_init_17 : decode cX3_init 17 = .ok (.newarray .int, 2) := by decide +kernel
theorem dX3_init_19 : decode cX3_init 19 = .ok (.putfield 18, 3) := by decide +kernel
theorem dX3_init_22 : decode cX3_init 22 = .ok (.return_, 1) := by decide +kernel
theorem dX3_begin_0 : decode cX3_begin 0 = .ok (.aload_n 0, 1) := by decide +kernel
theorem dX3_begin_1 : decode cX3_begin 1 = .ok (.iload_n 1, 1) := by decide +kernel
theorem dX3_begin_2 : decode cX3_begin 2 = .ok (.putfield 9, 3) := by decide +kernel
theorem dX3_begin_5 : decode cX3_begin 5 = .ok (.aload_n 0, 1) := by decide +kernel
theorem dX3_begin_6 : decode cX3_begin 6 = .ok (.iload_n 2, 1) := by decide +kernel
theorem dX3_begin_7 : decode cX3_begin 7 = .ok (.putfield 15, 3) := by decide +kernel
theorem dX3_begin_10 : decode cX3_begin 10 = .ok (.aload_n 0, 1) := by decide +kernel
theorem dX3_begin_11 : decode cX3_begin 11 = .ok (.getfield 18, 3) := by decide +kernel
theorem dX3_begin_14 : decode cX3_begin 14 = .ok (.iconst 0, 1) := by decide +kernel
theorem dX3_begin_15 : decode cX3_begin 15 = .ok (.invokestatic 22, 3) := by decide +kernel
theorem dX3_begin_18 : decode cX3_begin 18 = .ok (.return_, 1) := by decide +kernel
theorem dX3_refusal_0 : decode cX3_refusal 0 = .ok (.aload_n 0, 1) := by decide +kernel
theorem dX3_refusal_1 : decode cX3_refusal 1 = .ok (.getfield 9, 3) := by decide +kernel
theorem dX3_refusal_4 : decode cX3_refusal 4 = .ok (.iconst (-1), 1) := by decide +kernel
theorem dX3_refusal_5 : decode cX3_refusal 5 = .ok (.if_icmp .ne 6, 3) := by decide +kernel
theorem dX3_refusal_8 : decode cX3_refusal 8 = .ok (.bipush (-11), 2) := by decide +kernel
theorem dX3_refusal_10 : decode cX3_refusal 10 = .ok (.ireturn, 1) := by decide +kernel
theorem dX3_refusal_11 : decode cX3_refusal 11 = .ok (.aload_n 0, 1) := by decide +kernel
theorem dX3_refusal_12 : decode cX3_refusal 12 = .ok (.getfield 9, 3) := by decide +kernel
theorem dX3_refusal_15 : decode cX3_refusal 15 = .ok (.iload_n 1, 1) := by decide +kernel
theorem dX3_refusal_16 : decode cX3_refusal 16 = .ok (.if_icmp .eq 6, 3) := by decide +kernel
theorem dX3_refusal_19 : decode cX3_refusal 19 = .ok (.bipush (-12), 2) := by decide +kernel
theorem dX3_refusal_21 : decode cX3_refusal 21 = .ok (.ireturn, 1) := by decide +kernel
theorem dX3_refusal_22 : decode cX3_refusal 22 = .ok (.iload_n 2, 1) := by decide +kernel
theorem dX3_refusal_23 : decode cX3_refusal 23 = .ok (.ifCond .lt 13, 3) := by decide +kernel
theorem dX3_refusal_26 : decode cX3_refusal 26 = .ok (.iload_n 2, 1) := by decide +kernel
theorem dX3_refusal_27 : decode cX3_refusal 27 = .ok (.aload_n 0, 1) := by decide +kernel
theorem dX3_refusal_28 : decode cX3_refusal 28 = .ok (.getfield 15, 3) := by decide +kernel
theorem dX3_refusal_31 : decode cX3_refusal 31 = .ok (.iload_n 3, 1) := by decide +kernel
theorem dX3_refusal_32 : decode cX3_refusal 32 = .ok (.isub, 1) := by decide +kernel
theorem dX3_refusal_33 : decode cX3_refusal 33 = .ok (.if_icmp .le 8, 3) := by decide +kernel
theorem dX3_refusal_36 : decode cX3_refusal 36 = .ok (.bipush (-13), 2) := by decide +kernel
theorem dX3_refusal_38 : decode cX3_refusal 38 = .ok (.goto 4, 3) := by decide +kernel
theorem dX3_refusal_41 : decode cX3_refusal 41 = .ok (.iconst 0, 1) := by decide +kernel
theorem dX3_refusal_42 : decode cX3_refusal 42 = .ok (.ireturn, 1) := by decide +kernel
theorem dX3_holdsGrass_0 : decode cX3_holdsGrass 0 = .ok (.iload_n 1, 1) := by decide +kernel
theorem dX3_holdsGrass_1 : decode cX3_holdsGrass 1 = .ok (.istore_n 2, 1) := by decide +kernel
theorem dX3_holdsGrass_2 : decode cX3_holdsGrass 2 = .ok (.iload_n 2, 1) := by decide +kernel
theorem dX3_holdsGrass_3 : decode cX3_holdsGrass 3 = .ok (.iload_n 1, 1) := by decide +kernel
theorem dX3_holdsGrass_4 : decode cX3_holdsGrass 4 = .ok (.bipush 15, 2) := by decide +kernel
theorem dX3_holdsGrass_6 : decode cX3_holdsGrass 6 = .ok (.iadd, 1) := by decide +kernel
theorem dX3_holdsGrass_7 : decode cX3_holdsGrass 7 = .ok (.if_icmp .ge 31, 3) := by decide +kernel
theorem dX3_holdsGrass_10 : decode cX3_holdsGrass 10 = .ok (.aload_n 0, 1) := by decide +kernel
theorem dX3_holdsGrass_11 : decode cX3_holdsGrass 11 = .ok (.getfield 18, 3) := by decide +kernel
theorem dX3_holdsGrass_14 : decode cX3_holdsGrass 14 = .ok (.iload_n 2, 1) := by decide +kernel
theorem dX3_holdsGrass_15 : decode cX3_holdsGrass 15 = .ok (.iaload, 1) := by decide +kernel
theorem dX3_holdsGrass_16 : decode cX3_holdsGrass 16 = .ok (.ifCond .lt 14, 3) := by decide +kernel
theorem dX3_holdsGrass_19 : decode cX3_holdsGrass 19 = .ok (.aload_n 0, 1) := by decide +kernel
theorem dX3_holdsGrass_20 : decode cX3_holdsGrass 20 = .ok (.getfield 18, 3) := by decide +kernel
theorem dX3_holdsGrass_23 : decode cX3_holdsGrass 23 = .ok (.iload_n 2, 1) := by decide +kernel
theorem dX3_holdsGrass_24 : decode cX3_holdsGrass 24 = .ok (.iaload, 1) := by decide +kernel
theorem dX3_holdsGrass_25 : decode cX3_holdsGrass 25 = .ok (.bipush 9, 2) := by decide +kernel
theorem dX3_holdsGrass_27 : decode cX3_holdsGrass 27 = .ok (.if_icmp .le 5, 3) := by decide +kernel
theorem dX3_holdsGrass_30 : decode cX3_holdsGrass 30 = .ok (.iconst 0, 1) := by decide +kernel
theorem dX3_holdsGrass_31 : decode cX3_holdsGrass 31 = .ok (.ireturn, 1) := by decide +kernel
theorem dX3_holdsGrass_32 : decode cX3_holdsGrass 32 = .ok (.iinc 2 1, 3) := by decide +kernel
theorem dX3_holdsGrass_35 : decode cX3_holdsGrass 35 = .ok (.goto (-33), 3) := by decide +kernel
theorem dX3_holdsGrass_38 : decode cX3_holdsGrass 38 = .ok (.iconst 1, 1) := by decide +kernel
theorem dX3_holdsGrass_39 : decode cX3_holdsGrass 39 = .ok (.ireturn, 1) := by decide +kernel
theorem dX3_put_0 : decode cX3_put 0 = .ok (.aload_n 0, 1) := by decide +kernel
theorem dX3_put_1 : decode cX3_put 1 = .ok (.getfield 9, 3) := by decide +kernel
theorem dX3_put_4 : decode cX3_put 4 = .ok (.lookupswitch 50 #[(0, 28), (1, 39)], 28) := by decide +kernel
theorem dX3_put_32 : decode cX3_put 32 = .ok (.aload_n 0, 1) := by decide +kernel
theorem dX3_put_33 : decode cX3_put 33 = .ok (.getfield 18, 3) := by decide +kernel
theorem dX3_put_36 : decode cX3_put 36 = .ok (.iload_n 1, 1) := by decide +kernel
theorem dX3_put_37 : decode cX3_put 37 = .ok (.iload_n 2, 1) := by decide +kernel
theorem dX3_put_38 : decode cX3_put 38 = .ok (.i2b, 1) := by decide +kernel
theorem dX3_put_39 : decode cX3_put 39 = .ok (.iastore, 1) := by decide +kernel
theorem dX3_put_40 : decode cX3_put 40 = .ok (.goto 21, 3) := by decide +kernel
theorem dX3_put_43 : decode cX3_put 43 = .ok (.aload_n 0, 1) := by decide +kernel
theorem dX3_put_44 : decode cX3_put 44 = .ok (.getfield 18, 3) := by decide +kernel
theorem dX3_put_47 : decode cX3_put 47 = .ok (.iload_n 1, 1) := by decide +kernel
theorem dX3_put_48 : decode cX3_put 48 = .ok (.iload_n 2, 1) := by decide +kernel
theorem dX3_put_49 : decode cX3_put 49 = .ok (.i2s, 1) := by decide +kernel
theorem dX3_put_50 : decode cX3_put 50 = .ok (.iastore, 1) := by decide +kernel
theorem dX3_put_51 : decode cX3_put 51 = .ok (.goto 10, 3) := by decide +kernel
theorem dX3_put_54 : decode cX3_put 54 = .ok (.aload_n 0, 1) := by decide +kernel
theorem dX3_put_55 : decode cX3_put 55 = .ok (.getfield 18, 3) := by decide +kernel
theorem dX3_put_58 : decode cX3_put 58 = .ok (.iload_n 1, 1) := by decide +kernel
theorem dX3_put_59 : decode cX3_put 59 = .ok (.iload_n 2, 1) := by decide +kernel
theorem dX3_put_60 : decode cX3_put 60 = .ok (.iastore, 1) := by decide +kernel
theorem dX3_put_61 : decode cX3_put 61 = .ok (.return_, 1) := by decide +kernel
theorem dX4_init_0 : decode cX4_init 0 = .ok (.aload_n 0, 1) := by decide +kernel
theorem dX4_init_1 : decode cX4_init 1 = .ok (.invokespecial 3, 3) := by decide +kernel
theorem dX4_init_4 : decode cX4_init 4 = .ok (.aload_n 0, 1) := by decide +kernel
theorem dX4_init_5 : decode cX4_init 5 = .ok (.iconst 0, 1) := by decide +kernel
theorem dX4_init_6 : decode cX4_init 6 = .ok (.putfield 9, 3) := by decide +kernel
theorem dX4_init_9 : decode cX4_init 9 = .ok (.aload_n 0, 1) := by decide +kernel
theorem dX4_init_10 : decode cX4_init 10 = .ok (.bipush 15, 2) := by decide +kernel
theorem dX4_init_12 : decode cX4_init 12 = .ok (.newarray .int, 2) := by decide +kernel
theorem dX4_init_14 : decode cX4_init 14 = .ok (.putfield 15, 3) := by decide +kernel
theorem dX4_init_17 : decode cX4_init 17 = .ok (.return_, 1) := by decide +kernel
theorem dX4_begin_0 : decode cX4_begin 0 = .ok (.aload_n 0, 1) := by decide +kernel
theorem dX4_begin_1 : decode cX4_begin 1 = .ok (.iload_n 1, 1) := by decide +kernel
theorem dX4_begin_2 : decode cX4_begin 2 = .ok (.putfield 9, 3) := by decide +kernel
theorem dX4_begin_5 : decode cX4_begin 5 = .ok (.aload_n 0, 1) := by decide +kernel
theorem dX4_begin_6 : decode cX4_begin 6 = .ok (.getfield 15, 3) := by decide +kernel
theorem dX4_begin_9 : decode cX4_begin 9 = .ok (.iconst 5, 1) := by decide +kernel
theorem dX4_begin_10 : decode cX4_begin 10 = .ok (.invokestatic 19, 3) := by decide +kernel
theorem dX4_begin_13 : decode cX4_begin 13 = .ok (.return_, 1) := by decide +kernel
theorem dX4_copyFrom_0 : decode cX4_copyFrom 0 = .ok (.aload_n 0, 1) := by decide +kernel
theorem dX4_copyFrom_1 : decode cX4_copyFrom 1 = .ok (.aload_n 1, 1) := by decide +kernel
theorem dX4_copyFrom_2 : decode cX4_copyFrom 2 = .ok (.getfield 9, 3) := by decide +kernel
theorem dX4_copyFrom_5 : decode cX4_copyFrom 5 = .ok (.putfield 9, 3) := by decide +kernel
theorem dX4_copyFrom_8 : decode cX4_copyFrom 8 = .ok (.aload_n 1, 1) := by decide +kernel
theorem dX4_copyFrom_9 : decode cX4_copyFrom 9 = .ok (.getfield 15, 3) := by decide +kernel
theorem dX4_copyFrom_12 : decode cX4_copyFrom 12 = .ok (.iconst 0, 1) := by decide +kernel
theorem dX4_copyFrom_13 : decode cX4_copyFrom 13 = .ok (.aload_n 0, 1) := by decide +kernel
theorem dX4_copyFrom_14 : decode cX4_copyFrom 14 = .ok (.getfield 15, 3) := by decide +kernel
theorem dX4_copyFrom_17 : decode cX4_copyFrom 17 = .ok (.iconst 0, 1) := by decide +kernel
theorem dX4_copyFrom_18 : decode cX4_copyFrom 18 = .ok (.bipush 15, 2) := by decide +kernel
theorem dX4_copyFrom_20 : decode cX4_copyFrom 20 = .ok (.invokestatic 25, 3) := by decide +kernel
theorem dX4_copyFrom_23 : decode cX4_copyFrom 23 = .ok (.return_, 1) := by decide +kernel
theorem dX4_cellsUpTo_0 : decode cX4_cellsUpTo 0 = .ok (.iconst 0, 1) := by decide +kernel
theorem dX4_cellsUpTo_1 : decode cX4_cellsUpTo 1 = .ok (.istore_n 2, 1) := by decide +kernel
theorem dX4_cellsUpTo_2 : decode cX4_cellsUpTo 2 = .ok (.iconst 0, 1) := by decide +kernel
theorem dX4_cellsUpTo_3 : decode cX4_cellsUpTo 3 = .ok (.istore_n 3, 1) := by decide +kernel
theorem dX4_cellsUpTo_4 : decode cX4_cellsUpTo 4 = .ok (.iload_n 3, 1) := by decide +kernel
theorem dX4_cellsUpTo_5 : decode cX4_cellsUpTo 5 = .ok (.bipush 15, 2) := by decide +kernel
theorem dX4_cellsUpTo_7 : decode cX4_cellsUpTo 7 = .ok (.if_icmp .ge 25, 3) := by decide +kernel
theorem dX4_cellsUpTo_10 : decode cX4_cellsUpTo 10 = .ok (.aload_n 0, 1) := by decide +kernel
theorem dX4_cellsUpTo_11 : decode cX4_cellsUpTo 11 = .ok (.getfield 15, 3) := by decide +kernel
theorem dX4_cellsUpTo_14 : decode cX4_cellsUpTo 14 = .ok (.iload_n 3, 1) := by decide +kernel
theorem dX4_cellsUpTo_15 : decode cX4_cellsUpTo 15 = .ok (.iaload, 1) := by decide +kernel
theorem dX4_cellsUpTo_16 : decode cX4_cellsUpTo 16 = .ok (.iload_n 1, 1) := by decide +kernel
theorem dX4_cellsUpTo_17 : decode cX4_cellsUpTo 17 = .ok (.if_icmp .gt 9, 3) := by decide +kernel
theorem dX4_cellsUpTo_20 : decode cX4_cellsUpTo 20 = .ok (.iload_n 2, 1) := by decide +kernel
theorem dX4_cellsUpTo_21 : decode cX4_cellsUpTo 21 = .ok (.iconst 1, 1) := by decide +kernel
theorem dX4_cellsUpTo_22 : decode cX4_cellsUpTo 22 = .ok (.iload_n 3, 1) := by decide +kernel
theorem dX4_cellsUpTo_23 : decode cX4_cellsUpTo 23 = .ok (.ishl, 1) := by decide +kernel
theorem dX4_cellsUpTo_24 : decode cX4_cellsUpTo 24 = .ok (.ior, 1) := by decide +kernel
theorem dX4_cellsUpTo_25 : decode cX4_cellsUpTo 25 = .ok (.istore_n 2, 1) := by decide +kernel
theorem dX4_cellsUpTo_26 : decode cX4_cellsUpTo 26 = .ok (.iinc 3 1, 3) := by decide +kernel
theorem dX4_cellsUpTo_29 : decode cX4_cellsUpTo 29 = .ok (.goto (-25), 3) := by decide +kernel
theorem dX4_cellsUpTo_32 : decode cX4_cellsUpTo 32 = .ok (.iload_n 2, 1) := by decide +kernel
theorem dX4_cellsUpTo_33 : decode cX4_cellsUpTo 33 = .ok (.ireturn, 1) := by decide +kernel
theorem dX4_grownCells_0 : decode cX4_grownCells 0 = .ok (.sipush 32767, 3) := by decide +kernel
theorem dX4_grownCells_3 : decode cX4_grownCells 3 = .ok (.aload_n 0, 1) := by decide +kernel
theorem dX4_grownCells_4 : decode cX4_grownCells 4 = .ok (.iconst 2, 1) := by decide +kernel
theorem dX4_grownCells_5 : decode cX4_grownCells 5 = .ok (.invokevirtual 31, 3) := by decide +kernel
theorem dX4_grownCells_8 : decode cX4_grownCells 8 = .ok (.iconst (-1), 1) := by decide +kernel
theorem dX4_grownCells_9 : decode cX4_grownCells 9 = .ok (.ixor, 1) := by decide +kernel
theorem dX4_grownCells_10 : decode cX4_grownCells 10 = .ok (.iand, 1) := by decide +kernel
theorem dX4_grownCells_11 : decode cX4_grownCells 11 = .ok (.ireturn, 1) := by decide +kernel
theorem dX4_hasGrown_0 : decode cX4_hasGrown 0 = .ok (.iload_n 1, 1) := by decide +kernel
theorem dX4_hasGrown_1 : decode cX4_hasGrown 1 = .ok (.aload_n 0, 1) := by decide +kernel
theorem dX4_hasGrown_2 : decode cX4_hasGrown 2 = .ok (.invokevirtual 35, 3) := by decide +kernel
theorem dX4_hasGrown_5 : decode cX4_hasGrown 5 = .ok (.iconst (-1), 1) := by decide +kernel
theorem dX4_hasGrown_6 : decode cX4_hasGrown 6 = .ok (.ixor, 1) := by decide +kernel
theorem dX4_hasGrown_7 : decode cX4_hasGrown 7 = .ok (.iand, 1) := by decide +kernel
theorem dX4_hasGrown_8 : decode cX4_hasGrown 8 = .ok (.ifCond .ne 7, 3) := by decide +kernel
theorem dX4_hasGrown_11 : decode cX4_hasGrown 11 = .ok (.iconst 1, 1) := by decide +kernel
theorem dX4_hasGrown_12 : decode cX4_hasGrown 12 = .ok (.goto 4, 3) := by decide +kernel
theorem dX4_hasGrown_15 : decode cX4_hasGrown 15 = .ok (.iconst 0, 1) := by decide +kernel
theorem dX4_hasGrown_16 : decode cX4_hasGrown 16 = .ok (.ireturn, 1) := by decide +kernel
theorem dX4_grassOf_0 : decode cX4_grassOf 0 = .ok (.iconst 0, 1) := by decide +kernel
theorem dX4_grassOf_1 : decode cX4_grassOf 1 = .ok (.istore_n 2, 1) := by decide +kernel
theorem dX4_grassOf_2 : decode cX4_grassOf 2 = .ok (.iconst 0, 1) := by decide +kernel
theorem dX4_grassOf_3 : decode cX4_grassOf 3 = .ok (.istore_n 3, 1) := by decide +kernel
theorem dX4_grassOf_4 : decode cX4_grassOf 4 = .ok (.iload_n 3, 1) := by decide +kernel
theorem dX4_grassOf_5 : decode cX4_grassOf 5 = .ok (.bipush 15, 2) := by decide +kernel
theorem dX4_grassOf_7 : decode cX4_grassOf 7 = .ok (.if_icmp .ge 27, 3) := by decide +kernel
theorem dX4_grassOf_10 : decode cX4_grassOf 10 = .ok (.iload_n 1, 1) := by decide +kernel
theorem dX4_grassOf_11 : decode cX4_grassOf 11 = .ok (.iload_n 3, 1) := by decide +kernel
theorem dX4_grassOf_12 : decode cX4_grassOf 12 = .ok (.ishr, 1) := by decide +kernel
theorem dX4_grassOf_13 : decode cX4_grassOf 13 = .ok (.iconst 1, 1) := by decide +kernel
theorem dX4_grassOf_14 : decode cX4_grassOf 14 = .ok (.iand, 1) := by decide +kernel
theorem dX4_grassOf_15 : decode cX4_grassOf 15 = .ok (.iconst 1, 1) := by decide +kernel
theorem dX4_grassOf_16 : decode cX4_grassOf 16 = .ok (.if_icmp .ne 12, 3) := by decide +kernel
theorem dX4_grassOf_19 : decode cX4_grassOf 19 = .ok (.iload_n 2, 1) := by decide +kernel
theorem dX4_grassOf_20 : decode cX4_grassOf 20 = .ok (.aload_n 0, 1) := by decide +kernel
theorem dX4_grassOf_21 : decode cX4_grassOf 21 = .ok (.getfield 15, 3) := by decide +kernel
theorem dX4_grassOf_24 : decode cX4_grassOf 24 = .ok (.iload_n 3, 1) := by decide +kernel
theorem dX4_grassOf_25 : decode cX4_grassOf 25 = .ok (.iaload, 1) := by decide +kernel
theorem dX4_grassOf_26 : decode cX4_grassOf 26 = .ok (.iadd, 1) := by decide +kernel
theorem dX4_grassOf_27 : decode cX4_grassOf 27 = .ok (.istore_n 2, 1) := by decide +kernel
theorem dX4_grassOf_28 : decode cX4_grassOf 28 = .ok (.iinc 3 1, 3) := by decide +kernel
theorem dX4_grassOf_31 : decode cX4_grassOf 31 = .ok (.goto (-27), 3) := by decide +kernel
theorem dX4_grassOf_34 : decode cX4_grassOf 34 = .ok (.iload_n 2, 1) := by decide +kernel
theorem dX4_grassOf_35 : decode cX4_grassOf 35 = .ok (.ireturn, 1) := by decide +kernel
theorem dX4_cutDown_0 : decode cX4_cutDown 0 = .ok (.iconst 0, 1) := by decide +kernel
theorem dX4_cutDown_1 : decode cX4_cutDown 1 = .ok (.istore_n 2, 1) := by decide +kernel
theorem dX4_cutDown_2 : decode cX4_cutDown 2 = .ok (.iload_n 2, 1) := by decide +kernel
theorem dX4_cutDown_3 : decode cX4_cutDown 3 = .ok (.bipush 15, 2) := by decide +kernel
theorem dX4_cutDown_5 : decode cX4_cutDown 5 = .ok (.if_icmp .ge 25, 3) := by decide +kernel
theorem dX4_cutDown_8 : decode cX4_cutDown 8 = .ok (.iload_n 1, 1) := by decide +kernel
theorem dX4_cutDown_9 : decode cX4_cutDown 9 = .ok (.iload_n 2, 1) := by decide +kernel
theorem dX4_cutDown_10 : decode cX4_cutDown 10 = .ok (.ishr, 1) := by decide +kernel
theorem dX4_cutDown_11 : decode cX4_cutDown 11 = .ok (.iconst 1, 1) := by decide +kernel
theorem dX4_cutDown_12 : decode cX4_cutDown 12 = .ok (.iand, 1) := by decide +kernel
theorem dX4_cutDown_13 : decode cX4_cutDown 13 = .ok (.iconst 1, 1) := by decide +kernel
theorem dX4_cutDown_14 : decode cX4_cutDown 14 = .ok (.if_icmp .ne 10, 3) := by decide +kernel
theorem dX4_cutDown_17 : decode cX4_cutDown 17 = .ok (.aload_n 0, 1) := by decide +kernel
theorem dX4_cutDown_18 : decode cX4_cutDown 18 = .ok (.getfield 15, 3) := by decide +kernel
theorem dX4_cutDown_21 : decode cX4_cutDown 21 = .ok (.iload_n 2, 1) := by decide +kernel
theorem dX4_cutDown_22 : decode cX4_cutDown 22 = .ok (.iconst 0, 1) := by decide +kernel
theorem dX4_cutDown_23 : decode cX4_cutDown 23 = .ok (.iastore, 1) := by decide +kernel
theorem dX4_cutDown_24 : decode cX4_cutDown 24 = .ok (.iinc 2 1, 3) := by decide +kernel
theorem dX4_cutDown_27 : decode cX4_cutDown 27 = .ok (.goto (-25), 3) := by decide +kernel
theorem dX4_cutDown_30 : decode cX4_cutDown 30 = .ok (.return_, 1) := by decide +kernel
theorem dX4_growBy_0 : decode cX4_growBy 0 = .ok (.iconst 0, 1) := by decide +kernel
theorem dX4_growBy_1 : decode cX4_growBy 1 = .ok (.istore_n 2, 1) := by decide +kernel
theorem dX4_growBy_2 : decode cX4_growBy 2 = .ok (.iconst 0, 1) := by decide +kernel
theorem dX4_growBy_3 : decode cX4_growBy 3 = .ok (.istore_n 3, 1) := by decide +kernel
theorem dX4_growBy_4 : decode cX4_growBy 4 = .ok (.iload_n 3, 1) := by decide +kernel
theorem dX4_growBy_5 : decode cX4_growBy 5 = .ok (.bipush 15, 2) := by decide +kernel
theorem dX4_growBy_7 : decode cX4_growBy 7 = .ok (.if_icmp .ge 42, 3) := by decide +kernel
theorem dX4_growBy_10 : decode cX4_growBy 10 = .ok (.aload_n 0, 1) := by decide +kernel
theorem dX4_growBy_11 : decode cX4_growBy 11 = .ok (.getfield 15, 3) := by decide +kernel
theorem dX4_growBy_14 : decode cX4_growBy 14 = .ok (.iload_n 3, 1) := by decide +kernel
theorem dX4_growBy_15 : decode cX4_growBy 15 = .ok (.bipush 9, 2) := by decide +kernel
theorem dX4_growBy_17 : decode cX4_growBy 17 = .ok (.aload_n 0, 1) := by decide +kernel
theorem dX4_growBy_18 : decode cX4_growBy 18 = .ok (.getfield 15, 3) := by decide +kernel
theorem dX4_growBy_21 : decode cX4_growBy 21 = .ok (.iload_n 3, 1) := by decide +kernel
theorem dX4_growBy_22 : decode cX4_growBy 22 = .ok (.iaload, 1) := by decide +kernel
theorem dX4_growBy_23 : decode cX4_growBy 23 = .ok (.iload_n 1, 1) := by decide +kernel
theorem dX4_growBy_24 : decode cX4_growBy 24 = .ok (.iadd, 1) := by decide +kernel
theorem dX4_growBy_25 : decode cX4_growBy 25 = .ok (.invokestatic 39, 3) := by decide +kernel
theorem dX4_growBy_28 : decode cX4_growBy 28 = .ok (.iastore, 1) := by decide +kernel
theorem dX4_growBy_29 : decode cX4_growBy 29 = .ok (.aload_n 0, 1) := by decide +kernel
theorem dX4_growBy_30 : decode cX4_growBy 30 = .ok (.getfield 15, 3) := by decide +kernel
theorem dX4_growBy_33 : decode cX4_growBy 33 = .ok (.iload_n 3, 1) := by decide +kernel
theorem dX4_growBy_34 : decode cX4_growBy 34 = .ok (.iaload, 1) := by decide +kernel
theorem dX4_growBy_35 : decode cX4_growBy 35 = .ok (.bipush 9, 2) := by decide +kernel
theorem dX4_growBy_37 : decode cX4_growBy 37 = .ok (.if_icmp .ne 6, 3) := by decide +kernel
theorem dX4_growBy_40 : decode cX4_growBy 40 = .ok (.iinc 2 1, 3) := by decide +kernel
theorem dX4_growBy_43 : decode cX4_growBy 43 = .ok (.iinc 3 1, 3) := by decide +kernel
theorem dX4_growBy_46 : decode cX4_growBy 46 = .ok (.goto (-42), 3) := by decide +kernel
theorem dX4_growBy_49 : decode cX4_growBy 49 = .ok (.iload_n 2, 1) := by decide +kernel
theorem dX4_growBy_50 : decode cX4_growBy 50 = .ok (.ireturn, 1) := by decide +kernel
theorem dX4_sowFrom_0 : decode cX4_sowFrom 0 = .ok (.aload_n 1, 1) := by decide +kernel
theorem dX4_sowFrom_1 : decode cX4_sowFrom 1 = .ok (.iload_n 2, 1) := by decide +kernel
theorem dX4_sowFrom_2 : decode cX4_sowFrom 2 = .ok (.aload_n 0, 1) := by decide +kernel
theorem dX4_sowFrom_3 : decode cX4_sowFrom 3 = .ok (.getfield 15, 3) := by decide +kernel
theorem dX4_sowFrom_6 : decode cX4_sowFrom 6 = .ok (.iconst 0, 1) := by decide +kernel
theorem dX4_sowFrom_7 : decode cX4_sowFrom 7 = .ok (.bipush 15, 2) := by decide +kernel
theorem dX4_sowFrom_9 : decode cX4_sowFrom 9 = .ok (.invokestatic 25, 3) := by decide +kernel
theorem dX4_sowFrom_12 : decode cX4_sowFrom 12 = .ok (.aload_n 0, 1) := by decide +kernel
theorem dX4_sowFrom_13 : decode cX4_sowFrom 13 = .ok (.sipush 32767, 3) := by decide +kernel
theorem dX4_sowFrom_16 : decode cX4_sowFrom 16 = .ok (.invokevirtual 45, 3) := by decide +kernel
theorem dX4_sowFrom_19 : decode cX4_sowFrom 19 = .ok (.ireturn, 1) := by decide +kernel
theorem dX5_init_0 : decode cX5_init 0 = .ok (.aload_n 0, 1) := by decide +kernel
theorem dX5_init_1 : decode cX5_init 1 = .ok (.invokespecial 3, 3) := by decide +kernel
theorem dX5_init_4 : decode cX5_init 4 = .ok (.aload_n 0, 1) := by decide +kernel
theorem dX5_init_5 : decode cX5_init 5 = .ok (.sipush 3328, 3) := by decide +kernel
theorem dX5_init_8 : decode cX5_init 8 = .ok (.newarray .int, 2) := by decide +kernel
theorem dX5_init_10 : decode cX5_init 10 = .ok (.putfield 11, 3) := by decide +kernel
theorem dX5_init_13 : decode cX5_init 13 = .ok (.iconst 0, 1) := by decide +kernel
theorem dX5_init_14 : decode cX5_init 14 = .ok (.istore_n 3, 1) := by decide +kernel
theorem dX5_init_15 : decode cX5_init 15 = .ok (.iload_n 3, 1) := by decide +kernel
theorem dX5_init_16 : decode cX5_init 16 = .ok (.aload_n 2, 1) := by decide +kernel
theorem dX5_init_17 : decode cX5_init 17 = .ok (.arraylength, 1) := by decide +kernel
theorem dX5_init_18 : decode cX5_init 18 = .ok (.if_icmp .ge 66, 3) := by decide +kernel
theorem dX5_init_21 : decode cX5_init 21 = .ok (.aload_n 2, 1) := by decide +kernel
theorem dX5_init_22 : decode cX5_init 22 = .ok (.iload_n 3, 1) := by decide +kernel
theorem dX5_init_23 : decode cX5_init 23 = .ok (.iaload, 1) := by decide +kernel
theorem dX5_init_24 : decode cX5_init 24 = .ok (.bipush 32, 2) := by decide +kernel
theorem dX5_init_26 : decode cX5_init 26 = .ok (.idiv, 1) := by decide +kernel
theorem dX5_init_27 : decode cX5_init 27 = .ok (.istore 4, 2) := by decide +kernel
theorem dX5_init_29 : decode cX5_init 29 = .ok (.aload_n 2, 1) := by decide +kernel
theorem dX5_init_30 : decode cX5_init 30 = .ok (.iload_n 3, 1) := by decide +kernel
theorem dX5_init_31 : decode cX5_init 31 = .ok (.iaload, 1) := by decide +kernel
theorem dX5_init_32 : decode cX5_init 32 = .ok (.bipush 32, 2) := by decide +kernel
theorem dX5_init_34 : decode cX5_init 34 = .ok (.irem, 1) := by decide +kernel
theorem dX5_init_35 : decode cX5_init 35 = .ok (.istore 5, 2) := by decide +kernel
theorem dX5_init_37 : decode cX5_init 37 = .ok (.iload 4, 2) := by decide +kernel
theorem dX5_init_39 : decode cX5_init 39 = .ok (.bipush 8, 2) := by decide +kernel
theorem dX5_init_41 : decode cX5_init 41 = .ok (.if_icmp .ge 37, 3) := by decide +kernel
theorem dX5_init_44 : decode cX5_init 44 = .ok (.iload 5, 2) := by decide +kernel
theorem dX5_init_46 : decode cX5_init 46 = .ok (.bipush 26, 2) := by decide +kernel
theorem dX5_init_48 : decode cX5_init 48 = .ok (.if_icmp .ge 30, 3) := by decide +kernel
theorem dX5_init_51 : decode cX5_init 51 = .ok (.aload_n 0, 1) := by decide +kernel
theorem dX5_init_52 : decode cX5_init 52 = .ok (.getfield 11, 3) := by decide +kernel
theorem dX5_init_55 : decode cX5_init 55 = .ok (.iload 5, 2) := by decide +kernel
theorem dX5_init_57 : decode cX5_init 57 = .ok (.bipush 8, 2) := by decide +kernel
theorem dX5_init_59 : decode cX5_init 59 = .ok (.imul, 1) := by decide +kernel
theorem dX5_init_60 : decode cX5_init 60 = .ok (.iload 4, 2) := by decide +kernel
theorem dX5_init_62 : decode cX5_init 62 = .ok (.iadd, 1) := by decide +kernel
theorem dX5_init_63 : decode cX5_init 63 = .ok (.bipush 16, 2) := by decide +kernel
theorem dX5_init_65 : decode cX5_init 65 = .ok (.imul, 1) := by decide +kernel
theorem dX5_init_66 : decode cX5_init 66 = .ok (.iload_n 3, 1) := by decide +kernel
theorem dX5_init_67 : decode cX5_init 67 = .ok (.iload_n 1, 1) := by decide +kernel
theorem dX5_init_68 : decode cX5_init 68 = .ok (.ixor, 1) := by decide +kernel
theorem dX5_init_69 : decode cX5_init 69 = .ok (.invokestatic 15, 3) := by decide +kernel
theorem dX5_init_72 : decode cX5_init 72 = .ok (.iadd, 1) := by decide +kernel
theorem dX5_init_73 : decode cX5_init 73 = .ok (.dup2, 1) := by decide +kernel
theorem dX5_init_74 : decode cX5_init 74 = .ok (.iaload, 1) := by decide +kernel
theorem dX5_init_75 : decode cX5_init 75 = .ok (.iconst 1, 1) := by decide +kernel
theorem dX5_init_76 : decode cX5_init 76 = .ok (.iadd, 1) := by decide +kernel
theorem dX5_init_77 : decode cX5_init 77 = .ok (.iastore, 1) := by decide +kernel
theorem dX5_init_78 : decode cX5_init 78 = .ok (.iinc 3 1, 3) := by decide +kernel
theorem dX5_init_81 : decode cX5_init 81 = .ok (.goto (-66), 3) := by decide +kernel
theorem dX5_init_84 : decode cX5_init 84 = .ok (.return_, 1) := by decide +kernel
theorem dX5_oddsToRead_0 : decode cX5_oddsToRead 0 = .ok (.lconst 0, 1) := by decide +kernel
theorem dX5_oddsToRead_1 : decode cX5_oddsToRead 1 = .ok (.lstore 4, 2) := by decide +kernel
theorem dX5_oddsToRead_3 : decode cX5_oddsToRead 3 = .ok (.iconst 0, 1) := by decide +kernel
theorem dX5_oddsToRead_4 : decode cX5_oddsToRead 4 = .ok (.istore 6, 2) := by decide +kernel
theorem dX5_oddsToRead_6 : decode cX5_oddsToRead 6 = .ok (.iload 6, 2) := by decide +kernel
theorem dX5_oddsToRead_8 : decode cX5_oddsToRead 8 = .ok (.iload_n 2, 1) := by decide +kernel
theorem dX5_oddsToRead_9 : decode cX5_oddsToRead 9 = .ok (.if_icmp .gt 61, 3) := by decide +kernel
theorem dX5_oddsToRead_12 : decode cX5_oddsToRead 12 = .ok (.iload 6, 2) := by decide +kernel
theorem dX5_oddsToRead_14 : decode cX5_oddsToRead 14 = .ok (.bipush 8, 2) := by decide +kernel
theorem dX5_oddsToRead_16 : decode cX5_oddsToRead 16 = .ok (.if_icmp .ge 54, 3) := by decide +kernel
theorem dX5_oddsToRead_19 : decode cX5_oddsToRead 19 = .ok (.iconst 0, 1) := by decide +kernel
theorem dX5_oddsToRead_20 : decode cX5_oddsToRead 20 = .ok (.istore 7, 2) := by decide +kernel
theorem dX5_oddsToRead_22 : decode cX5_oddsToRead 22 = .ok (.iload 7, 2) := by decide +kernel
theorem dX5_oddsToRead_24 : decode cX5_oddsToRead 24 = .ok (.bipush 16, 2) := by decide +kernel
theorem dX5_oddsToRead_26 : decode cX5_oddsToRead 26 = .ok (.if_icmp .ge 38, 3) := by decide +kernel
theorem dX5_oddsToRead_29 : decode cX5_oddsToRead 29 = .ok (.lload 4, 2) := by decide +kernel
theorem dX5_oddsToRead_31 : decode cX5_oddsToRead 31 = .ok (.aload_n 0, 1) := by decide +kernel
theorem dX5_oddsToRead_32 : decode cX5_oddsToRead 32 = .ok (.getfield 11, 3) := by decide +kernel
theorem dX5_oddsToRead_35 : decode cX5_oddsToRead 35 = .ok (.iload_n 1, 1) := by decide +kernel
theorem dX5_oddsToRead_36 : decode cX5_oddsToRead 36 = .ok (.bipush 8, 2) := by decide +kernel
theorem dX5_oddsToRead_38 : decode cX5_oddsToRead 38 = .ok (.imul, 1) := by decide +kernel
theorem dX5_oddsToRead_39 : decode cX5_oddsToRead 39 = .ok (.iload 6, 2) := by decide +kernel
theorem dX5_oddsToRead_41 : decode cX5_oddsToRead 41 = .ok (.iadd, 1) := by decide +kernel
theorem dX5_oddsToRead_42 : decode cX5_oddsToRead 42 = .ok (.bipush 16, 2) := by decide +kernel
theorem dX5_oddsToRead_44 : decode cX5_oddsToRead 44 = .ok (.imul, 1) := by decide +kernel
theorem dX5_oddsToRead_45 : decode cX5_oddsToRead 45 = .ok (.iload 7, 2) := by decide +kernel
theorem dX5_oddsToRead_47 : decode cX5_oddsToRead 47 = .ok (.iadd, 1) := by decide +kernel
theorem dX5_oddsToRead_48 : decode cX5_oddsToRead 48 = .ok (.iaload, 1) := by decide +kernel
theorem dX5_oddsToRead_49 : decode cX5_oddsToRead 49 = .ok (.i2l, 1) := by decide +kernel
theorem dX5_oddsToRead_50 : decode cX5_oddsToRead 50 = .ok (.aload_n 3, 1) := by decide +kernel
theorem dX5_oddsToRead_51 : decode cX5_oddsToRead 51 = .ok (.iload 7, 2) := by decide +kernel
theorem dX5_oddsToRead_53 : decode cX5_oddsToRead 53 = .ok (.laload, 1) := by decide +kernel
theorem dX5_oddsToRead_54 : decode cX5_oddsToRead 54 = .ok (.lmul, 1) := by decide +kernel
theorem dX5_oddsToRead_55 : decode cX5_oddsToRead 55 = .ok (.ladd, 1) := by decide +kernel
theorem dX5_oddsToRead_56 : decode cX5_oddsToRead 56 = .ok (.lstore 4, 2) := by decide +kernel
theorem dX5_oddsToRead_58 : decode cX5_oddsToRead 58 = .ok (.iinc 7 1, 3) := by decide +kernel
theorem dX5_oddsToRead_61 : decode cX5_oddsToRead 61 = .ok (.goto (-39), 3) := by decide +kernel
theorem dX5_oddsToRead_64 : decode cX5_oddsToRead 64 = .ok (.iinc 6 1, 3) := by decide +kernel
theorem dX5_oddsToRead_67 : decode cX5_oddsToRead 67 = .ok (.goto (-61), 3) := by decide +kernel
theorem dX5_oddsToRead_70 : decode cX5_oddsToRead 70 = .ok (.lload 4, 2) := by decide +kernel
theorem dX5_oddsToRead_72 : decode cX5_oddsToRead 72 = .ok (.lreturn, 1) := by decide +kernel
theorem dX6_init_0 : decode cX6_init 0 = .ok (.aload_n 0, 1) := by decide +kernel
theorem dX6_init_1 : decode cX6_init 1 = .ok (.invokespecial 3, 3) := by decide +kernel
theorem dX6_init_4 : decode cX6_init 4 = .ok (.aload_n 0, 1) := by decide +kernel
theorem dX6_init_5 : decode cX6_init 5 = .ok (.bipush 80, 2) := by decide +kernel
theorem dX6_init_7 : decode cX6_init 7 = .ok (.newarray .byte, 2) := by decide +kernel
theorem dX6_init_9 : decode cX6_init 9 = .ok (.putfield 9, 3) := by decide +kernel
theorem dX6_init_12 : decode cX6_init 12 = .ok (.aload_n 0, 1) := by decide +kernel
theorem dX6_init_13 : decode cX6_init 13 = .ok (.iconst 0, 1) := by decide +kernel
theorem dX6_init_14 : decode cX6_init 14 = .ok (.putfield 15, 3) := by decide +kernel
theorem dX6_init_17 : decode cX6_init 17 = .ok (.aload_n 0, 1) := by decide +kernel
theorem dX6_init_18 : decode cX6_init 18 = .ok (.bipush 9, 2) := by decide +kernel
theorem dX6_init_20 : decode cX6_init 20 = .ok (.newarray .int, 2) := by decide +kernel
theorem dX6_init_22 : decode cX6_init 22 = .ok (.putfield 19, 3) := by decide +kernel
theorem dX6_init_25 : decode cX6_init 25 = .ok (.aload_n 0, 1) := by decide +kernel
theorem dX6_init_26 : decode cX6_init 26 = .ok (.iconst 4, 1) := by decide +kernel
theorem dX6_init_27 : decode cX6_init 27 = .ok (.anewarray 23, 3) := by decide +kernel
theorem dX6_init_30 : decode cX6_init 30 = .ok (.putfield 25, 3) := by decide +kernel
theorem dX6_init_33 : decode cX6_init 33 = .ok (.aload_n 0, 1) := by decide +kernel
theorem dX6_init_34 : decode cX6_init 34 = .ok (.iconst 0, 1) := by decide +kernel
theorem dX6_init_35 : decode cX6_init 35 = .ok (.putfield 29, 3) := by decide +kernel
theorem dX6_init_38 : decode cX6_init 38 = .ok (.iconst 0, 1) := by decide +kernel
theorem dX6_init_39 : decode cX6_init 39 = .ok (.istore_n 1, 1) := by decide +kernel
theorem dX6_init_40 : decode cX6_init 40 = .ok (.iload_n 1, 1) := by decide +kernel
theorem dX6_init_41 : decode cX6_init 41 = .ok (.iconst 4, 1) := by decide +kernel
theorem dX6_init_42 : decode cX6_init 42 = .ok (.if_icmp .ge 22, 3) := by decide +kernel
theorem dX6_init_45 : decode cX6_init 45 = .ok (.aload_n 0, 1) := by decide +kernel
theorem dX6_init_46 : decode cX6_init 46 = .ok (.getfield 25, 3) := by decide +kernel
theorem dX6_init_49 : decode cX6_init 49 = .ok (.iload_n 1, 1) := by decide +kernel
theorem dX6_init_50 : decode cX6_init 50 = .ok (.new 23, 3) := by decide +kernel
theorem dX6_init_53 : decode cX6_init 53 = .ok (.dup, 1) := by decide +kernel
theorem dX6_init_54 : decode cX6_init 54 = .ok (.invokespecial 32, 3) := by decide +kernel
theorem dX6_init_57 : decode cX6_init 57 = .ok (.aastore, 1) := by decide +kernel
theorem dX6_init_58 : decode cX6_init 58 = .ok (.iinc 1 1, 3) := by decide +kernel
theorem dX6_init_61 : decode cX6_init 61 = .ok (.goto (-21), 3) := by decide +kernel
theorem dX6_init_64 : decode cX6_init 64 = .ok (.return_, 1) := by decide +kernel
theorem dX6_append_0 : decode cX6_append 0 = .ok (.iconst 0, 1) := by decide +kernel
theorem dX6_append_1 : decode cX6_append 1 = .ok (.istore 4, 2) := by decide +kernel
theorem dX6_append_3 : decode cX6_append 3 = .ok (.iload 4, 2) := by decide +kernel
theorem dX6_append_5 : decode cX6_append 5 = .ok (.iload_n 3, 1) := by decide +kernel
theorem dX6_append_6 : decode cX6_append 6 = .ok (.if_icmp .ge 36, 3) := by decide +kernel
theorem dX6_append_9 : decode cX6_append 9 = .ok (.lload_n 1, 1) := by decide +kernel
theorem dX6_append_10 : decode cX6_append 10 = .ok (.bipush 8, 2) := by decide +kernel
theorem dX6_append_12 : decode cX6_append 12 = .ok (.iload 4, 2) := by decide +kernel
theorem dX6_append_14 : decode cX6_append 14 = .ok (.imul, 1) := by decide +kernel
theorem dX6_append_15 : decode cX6_append 15 = .ok (.lshr, 1) := by decide +kernel
theorem dX6_append_16 : decode cX6_append 16 = .ok (.l2i, 1) := by decide +kernel
theorem dX6_append_17 : decode cX6_append 17 = .ok (.i2b, 1) := by decide +kernel
theorem dX6_append_18 : decode cX6_append 18 = .ok (.istore 5, 2) := by decide +kernel
theorem dX6_append_20 : decode cX6_append 20 = .ok (.iload 5, 2) := by decide +kernel
theorem dX6_append_22 : decode cX6_append 22 = .ok (.bipush 32, 2) := by decide +kernel
theorem dX6_append_24 : decode cX6_append 24 = .ok (.if_icmp .lt 10, 3) := by decide +kernel
theorem dX6_append_27 : decode cX6_append 27 = .ok (.iload 5, 2) := by decide +kernel
theorem dX6_append_29 : decode cX6_append 29 = .ok (.bipush 126, 2) := by decide +kernel
theorem dX6_append_31 : decode cX6_append 31 = .ok (.if_icmp .le 5, 3) := by decide +kernel
theorem dX6_append_34 : decode cX6_append 34 = .ok (.iconst (-1), 1) := by decide +kernel
theorem dX6_append_35 : decode cX6_append 35 = .ok (.ireturn, 1) := by decide +kernel
theorem dX6_append_36 : decode cX6_append 36 = .ok (.iinc 4 1, 3) := by decide +kernel
theorem dX6_append_39 : decode cX6_append 39 = .ok (.goto (-36), 3) := by decide +kernel
theorem dX6_append_42 : decode cX6_append 42 = .ok (.iload_n 3, 1) := by decide +kernel
theorem dX6_append_43 : decode cX6_append 43 = .ok (.bipush 80, 2) := by decide +kernel
theorem dX6_append_45 : decode cX6_append 45 = .ok (.aload_n 0, 1) := by decide +kernel
theorem dX6_append_46 : decode cX6_append 46 = .ok (.getfield 15, 3) := by decide +kernel
theorem dX6_append_49 : decode cX6_append 49 = .ok (.isub, 1) := by decide +kernel
theorem dX6_append_50 : decode cX6_append 50 = .ok (.if_icmp .le 6, 3) := by decide +kernel
theorem dX6_append_53 : decode cX6_append 53 = .ok (.bipush (-3), 2) := by decide +kernel
theorem dX6_append_55 : decode cX6_append 55 = .ok (.ireturn, 1) := by decide +kernel
theorem dX6_append_56 : decode cX6_append 56 = .ok (.iload_n 3, 1) := by decide +kernel
theorem dX6_append_57 : decode cX6_append 57 = .ok (.iconst 1, 1) := by decide +kernel
theorem dX6_append_58 : decode cX6_append 58 = .ok (.isub, 1) := by decide +kernel
theorem dX6_append_59 : decode cX6_append 59 = .ok (.istore 4, 2) := by decide +kernel
theorem dX6_append_61 : decode cX6_append 61 = .ok (.iload 4, 2) := by decide +kernel
theorem dX6_append_63 : decode cX6_append 63 = .ok (.ifCond .lt 37, 3) := by decide +kernel
theorem dX6_append_66 : decode cX6_append 66 = .ok (.aload_n 0, 1) := by decide +kernel
theorem dX6_append_67 : decode cX6_append 67 = .ok (.getfield 9, 3) := by decide +kernel
theorem dX6_append_70 : decode cX6_append 70 = .ok (.aload_n 0, 1) := by decide +kernel
theorem dX6_append_71 : decode cX6_append 71 = .ok (.getfield 15, 3) := by decide +kernel
theorem dX6_append_74 : decode cX6_append 74 = .ok (.lload_n 1, 1) := by decide +kernel
theorem dX6_append_75 : decode cX6_append 75 = .ok (.bipush 8, 2) := by decide +kernel
theorem dX6_append_77 : decode cX6_append 77 = .ok (.iload 4, 2) := by decide +kernel
theorem dX6_append_79 : decode cX6_append 79 = .ok (.imul, 1) := by decide +kernel
theorem dX6_append_80 : decode cX6_append 80 = .ok (.lshr, 1) := by decide +kernel
theorem dX6_append_81 : decode cX6_append 81 = .ok (.l2i, 1) := by decide +kernel
theorem dX6_append_82 : decode cX6_append 82 = .ok (.i2b, 1) := by decide +kernel
theorem dX6_append_83 : decode cX6_append 83 = .ok (.bastore, 1) := by decide +kernel
theorem dX6_append_84 : decode cX6_append 84 = .ok (.aload_n 0, 1) := by decide +kernel
theorem dX6_append_85 : decode cX6_append 85 = .ok (.dup, 1) := by decide +kernel
theorem dX6_append_86 : decode cX6_append 86 = .ok (.getfield 15, 3) := by decide +kernel
theorem dX6_append_89 : decode cX6_append 89 = .ok (.iconst 1, 1) := by decide +kernel
theorem dX6_append_90 : decode cX6_append 90 = .ok (.iadd, 1) := by decide +kernel
theorem dX6_append_91 : decode cX6_append 91 = .ok (.putfield 15, 3) := by decide +kernel
theorem dX6_append_94 : decode cX6_append 94 = .ok (.iinc 4 (-1), 3) := by decide +kernel
theorem dX6_append_97 : decode cX6_append 97 = .ok (.goto (-36), 3) := by decide +kernel
theorem dX6_append_100 : decode cX6_append 100 = .ok (.aload_n 0, 1) := by decide +kernel
theorem dX6_append_101 : decode cX6_append 101 = .ok (.getfield 15, 3) := by decide +kernel
theorem dX6_append_104 : decode cX6_append 104 = .ok (.ireturn, 1) := by decide +kernel
theorem dX6_readOwners_0 : decode cX6_readOwners 0 = .ok (.iconst 0, 1) := by decide +kernel
theorem dX6_readOwners_1 : decode cX6_readOwners 1 = .ok (.istore_n 1, 1) := by decide +kernel
theorem dX6_readOwners_2 : decode cX6_readOwners 2 = .ok (.iconst 0, 1) := by decide +kernel
theorem dX6_readOwners_3 : decode cX6_readOwners 3 = .ok (.istore_n 2, 1) := by decide +kernel
theorem dX6_readOwners_4 : decode cX6_readOwners 4 = .ok (.iload_n 2, 1) := by decide +kernel
theorem dX6_readOwners_5 : decode cX6_readOwners 5 = .ok (.aload_n 0, 1) := by decide +kernel
theorem dX6_readOwners_6 : decode cX6_readOwners 6 = .ok (.getfield 15, 3) := by decide +kernel
theorem dX6_readOwners_9 : decode cX6_readOwners 9 = .ok (.if_icmp .ge 63, 3) := by decide +kernel
theorem dX6_readOwners_12 : decode cX6_readOwners 12 = .ok (.aload_n 0, 1) := by decide +kernel
theorem dX6_readOwners_13 : decode cX6_readOwners 13 = .ok (.getfield 9, 3) := by decide +kernel
theorem dX6_readOwners_16 : decode cX6_readOwners 16 = .ok (.iload_n 2, 1) := by decide +kernel
theorem dX6_readOwners_17 : decode cX6_readOwners 17 = .ok (.baload, 1) := by decide +kernel
theorem dX6_readOwners_18 : decode cX6_readOwners 18 = .ok (.bipush 32, 2) := by decide +kernel
theorem dX6_readOwners_20 : decode cX6_readOwners 20 = .ok (.if_icmp .ne 6, 3) := by decide +kernel
theorem dX6_readOwners_23 : decode cX6_readOwners 23 = .ok (.goto 43, 3) := by decide +kernel
theorem dX6_readOwners_26 : decode cX6_readOwners 26 = .ok (.aload_n 0, 1) := by decide +kernel
theorem dX6_readOwners_27 : decode cX6_readOwners 27 = .ok (.getfield 9, 3) := by decide +kernel
theorem dX6_readOwners_30 : decode cX6_readOwners 30 = .ok (.iload_n 2, 1) := by decide +kernel
theorem dX6_readOwners_31 : decode cX6_readOwners 31 = .ok (.baload, 1) := by decide +kernel
theorem dX6_readOwners_32 : decode cX6_readOwners 32 = .ok (.bipush 48, 2) := by decide +kernel
theorem dX6_readOwners_34 : decode cX6_readOwners 34 = .ok (.isub, 1) := by decide +kernel
theorem dX6_readOwners_35 : decode cX6_readOwners 35 = .ok (.istore_n 3, 1) := by decide +kernel
theorem dX6_readOwners_36 : decode cX6_readOwners 36 = .ok (.iload_n 3, 1) := by decide +kernel
theorem dX6_readOwners_37 : decode cX6_readOwners 37 = .ok (.bipush 6, 2) := by decide +kernel
theorem dX6_readOwners_39 : decode cX6_readOwners 39 = .ok (.invokestatic 33, 3) := by decide +kernel
theorem dX6_readOwners_42 : decode cX6_readOwners 42 = .ok (.ifCond .eq 9, 3) := by decide +kernel
theorem dX6_readOwners_45 : decode cX6_readOwners 45 = .ok (.iload_n 1, 1) := by decide +kernel
theorem dX6_readOwners_46 : decode cX6_readOwners 46 = .ok (.bipush 9, 2) := by decide +kernel
theorem dX6_readOwners_48 : decode cX6_readOwners 48 = .ok (.if_icmp .lt 8, 3) := by decide +kernel
theorem dX6_readOwners_51 : decode cX6_readOwners 51 = .ok (.iload_n 2, 1) := by decide +kernel
theorem dX6_readOwners_52 : decode cX6_readOwners 52 = .ok (.invokestatic 37, 3) := by decide +kernel
theorem dX6_readOwners_55 : decode cX6_readOwners 55 = .ok (.ireturn, 1) := by decide +kernel
theorem dX6_readOwners_56 : decode cX6_readOwners 56 = .ok (.aload_n 0, 1) := by decide +kernel
theorem dX6_readOwners_57 : decode cX6_readOwners 57 = .ok (.getfield 19, 3) := by decide +kernel
theorem dX6_readOwners_60 : decode cX6_readOwners 60 = .ok (.iload_n 1, 1) := by decide +kernel
theorem dX6_readOwners_61 : decode cX6_readOwners 61 = .ok (.iload_n 3, 1) := by decide +kernel
theorem dX6_readOwners_62 : decode cX6_readOwners 62 = .ok (.iastore, 1) := by decide +kernel
theorem dX6_readOwners_63 : decode cX6_readOwners 63 = .ok (.iinc 1 1, 3) := by decide +kernel
theorem dX6_readOwners_66 : decode cX6_readOwners 66 = .ok (.iinc 2 1, 3) := by decide +kernel
theorem dX6_readOwners_69 : decode cX6_readOwners 69 = .ok (.goto (-65), 3) := by decide +kernel
theorem dX6_readOwners_72 : decode cX6_readOwners 72 = .ok (.iload_n 1, 1) := by decide +kernel
theorem dX6_readOwners_73 : decode cX6_readOwners 73 = .ok (.ifCond .ne 13, 3) := by decide +kernel
theorem dX6_readOwners_76 : decode cX6_readOwners 76 = .ok (.aload_n 0, 1) := by decide +kernel
theorem dX6_readOwners_77 : decode cX6_readOwners 77 = .ok (.getfield 15, 3) := by decide +kernel
theorem dX6_readOwners_80 : decode cX6_readOwners 80 = .ok (.invokestatic 37, 3) := by decide +kernel
theorem dX6_readOwners_83 : decode cX6_readOwners 83 = .ok (.goto 4, 3) := by decide +kernel
theorem dX6_readOwners_86 : decode cX6_readOwners 86 = .ok (.iload_n 1, 1) := by decide +kernel
theorem dX6_readOwners_87 : decode cX6_readOwners 87 = .ok (.ireturn, 1) := by decide +kernel
theorem dX6_readWords_0 : decode cX6_readWords 0 = .ok (.aload_n 0, 1) := by decide +kernel
theorem dX6_readWords_1 : decode cX6_readWords 1 = .ok (.iconst 0, 1) := by decide +kernel
theorem dX6_readWords_2 : decode cX6_readWords 2 = .ok (.putfield 29, 3) := by decide +kernel
theorem dX6_readWords_5 : decode cX6_readWords 5 = .ok (.iconst 0, 1) := by decide +kernel
theorem dX6_readWords_6 : decode cX6_readWords 6 = .ok (.istore_n 1, 1) := by decide +kernel
theorem dX6_readWords_7 : decode cX6_readWords 7 = .ok (.iload_n 1, 1) := by decide +kernel
theorem dX6_readWords_8 : decode cX6_readWords 8 = .ok (.iconst 4, 1) := by decide +kernel
theorem dX6_readWords_9 : decode cX6_readWords 9 = .ok (.if_icmp .ge 71, 3) := by decide +kernel
theorem dX6_readWords_12 : decode cX6_readWords 12 = .ok (.aload_n 0, 1) := by decide +kernel
theorem dX6_readWords_13 : decode cX6_readWords 13 = .ok (.aload_n 0, 1) := by decide +kernel
theorem dX6_readWords_14 : decode cX6_readWords 14 = .ok (.getfield 25, 3) := by decide +kernel
theorem dX6_readWords_17 : decode cX6_readWords 17 = .ok (.iload_n 1, 1) := by decide +kernel
theorem dX6_readWords_18 : decode cX6_readWords 18 = .ok (.aaload, 1) := by decide +kernel
theorem dX6_readWords_19 : decode cX6_readWords 19 = .ok (.invokevirtual 41, 3) := by decide +kernel
theorem dX6_readWords_22 : decode cX6_readWords 22 = .ok (.istore_n 2, 1) := by decide +kernel
theorem dX6_readWords_23 : decode cX6_readWords 23 = .ok (.iload_n 2, 1) := by decide +kernel
theorem dX6_readWords_24 : decode cX6_readWords 24 = .ok (.ifCond .eq 5, 3) := by decide +kernel
theorem dX6_readWords_27 : decode cX6_readWords 27 = .ok (.iload_n 2, 1) := by decide +kernel
theorem dX6_readWords_28 : decode cX6_readWords 28 = .ok (.ireturn, 1) := by decide +kernel
theorem dX6_readWords_29 : decode cX6_readWords 29 = .ok (.aload_n 0, 1) := by decide +kernel
theorem dX6_readWords_30 : decode cX6_readWords 30 = .ok (.invokevirtual 45, 3) := by decide +kernel
theorem dX6_readWords_33 : decode cX6_readWords 33 = .ok (.istore_n 3, 1) := by decide +kernel
theorem dX6_readWords_34 : decode cX6_readWords 34 = .ok (.iload_n 3, 1) := by decide +kernel
theorem dX6_readWords_35 : decode cX6_readWords 35 = .ok (.iconst (-1), 1) := by decide +kernel
theorem dX6_readWords_36 : decode cX6_readWords 36 = .ok (.if_icmp .ne 7, 3) := by decide +kernel
theorem dX6_readWords_39 : decode cX6_readWords 39 = .ok (.iload_n 1, 1) := by decide +kernel
theorem dX6_readWords_40 : decode cX6_readWords 40 = .ok (.iconst 1, 1) := by decide +kernel
theorem dX6_readWords_41 : decode cX6_readWords 41 = .ok (.iadd, 1) := by decide +kernel
theorem dX6_readWords_42 : decode cX6_readWords 42 = .ok (.ireturn, 1) := by decide +kernel
theorem dX6_readWords_43 : decode cX6_readWords 43 = .ok (.iload_n 3, 1) := by decide +kernel
theorem dX6_readWords_44 : decode cX6_readWords 44 = .ok (.bipush 44, 2) := by decide +kernel
theorem dX6_readWords_46 : decode cX6_readWords 46 = .ok (.if_icmp .ne 10, 3) := by decide +kernel
theorem dX6_readWords_49 : decode cX6_readWords 49 = .ok (.iload_n 1, 1) := by decide +kernel
theorem dX6_readWords_50 : decode cX6_readWords 50 = .ok (.iconst 1, 1) := by decide +kernel
theorem dX6_readWords_51 : decode cX6_readWords 51 = .ok (.iadd, 1) := by decide +kernel
theorem dX6_readWords_52 : decode cX6_readWords 52 = .ok (.iconst 4, 1) := by decide +kernel
theorem dX6_readWords_53 : decode cX6_readWords 53 = .ok (.if_icmp .ne 11, 3) := by decide +kernel
theorem dX6_readWords_56 : decode cX6_readWords 56 = .ok (.aload_n 0, 1) := by decide +kernel
theorem dX6_readWords_57 : decode cX6_readWords 57 = .ok (.getfield 29, 3) := by decide +kernel
theorem dX6_readWords_60 : decode cX6_readWords 60 = .ok (.invokestatic 37, 3) := by decide +kernel
theorem dX6_readWords_63 : decode cX6_readWords 63 = .ok (.ireturn, 1) := by decide +kernel
theorem dX6_readWords_64 : decode cX6_readWords 64 = .ok (.aload_n 0, 1) := by decide +kernel
theorem dX6_readWords_65 : decode cX6_readWords 65 = .ok (.dup, 1) := by decide +kernel
theorem dX6_readWords_66 : decode cX6_readWords 66 = .ok (.getfield 29, 3) := by decide +kernel
theorem dX6_readWords_69 : decode cX6_readWords 69 = .ok (.iconst 1, 1) := by decide +kernel
theorem dX6_readWords_70 : decode cX6_readWords 70 = .ok (.iadd, 1) := by decide +kernel
theorem dX6_readWords_71 : decode cX6_readWords 71 = .ok (.putfield 29, 3) := by decide +kernel
theorem dX6_readWords_74 : decode cX6_readWords 74 = .ok (.iinc 1 1, 3) := by decide +kernel
theorem dX6_readWords_77 : decode cX6_readWords 77 = .ok (.goto (-70), 3) := by decide +kernel
theorem dX6_readWords_80 : decode cX6_readWords 80 = .ok (.aload_n 0, 1) := by decide +kernel
theorem dX6_readWords_81 : decode cX6_readWords 81 = .ok (.getfield 29, 3) := by decide +kernel
theorem dX6_readWords_84 : decode cX6_readWords 84 = .ok (.invokestatic 37, 3) := by decide +kernel
theorem dX6_readWords_87 : decode cX6_readWords 87 = .ok (.ireturn, 1) := by decide +kernel
theorem dX6_readWord_0 : decode cX6_readWord 0 = .ok (.aload_n 1, 1) := by decide +kernel
theorem dX6_readWord_1 : decode cX6_readWord 1 = .ok (.iconst 0, 1) := by decide +kernel
theorem dX6_readWord_2 : decode cX6_readWord 2 = .ok (.putfield 49, 3) := by decide +kernel
theorem dX6_readWord_5 : decode cX6_readWord 5 = .ok (.aload_n 1, 1) := by decide +kernel
theorem dX6_readWord_6 : decode cX6_readWord 6 = .ok (.bipush 10, 2) := by decide +kernel
theorem dX6_readWord_8 : decode cX6_readWord 8 = .ok (.putfield 50, 3) := by decide +kernel
theorem dX6_readWord_11 : decode cX6_readWord 11 = .ok (.aload_n 1, 1) := by decide +kernel
theorem dX6_readWord_12 : decode cX6_readWord 12 = .ok (.getfield 49, 3) := by decide +kernel
theorem dX6_readWord_15 : decode cX6_readWord 15 = .ok (.bipush 6, 2) := by decide +kernel
theorem dX6_readWord_17 : decode cX6_readWord 17 = .ok (.if_icmp .ge 62, 3) := by decide +kernel
theorem dX6_readWord_20 : decode cX6_readWord 20 = .ok (.aload_n 0, 1) := by decide +kernel
theorem dX6_readWord_21 : decode cX6_readWord 21 = .ok (.invokevirtual 45, 3) := by decide +kernel
theorem dX6_readWord_24 : decode cX6_readWord 24 = .ok (.bipush 97, 2) := by decide +kernel
theorem dX6_readWord_26 : decode cX6_readWord 26 = .ok (.isub, 1) := by decide +kernel
theorem dX6_readWord_27 : decode cX6_readWord 27 = .ok (.bipush 26, 2) := by decide +kernel
theorem dX6_readWord_29 : decode cX6_readWord 29 = .ok (.invokestatic 33, 3) := by decide +kernel
theorem dX6_readWord_32 : decode cX6_readWord 32 = .ok (.ifCond .eq 47, 3) := by decide +kernel
theorem dX6_readWord_35 : decode cX6_readWord 35 = .ok (.aload_n 1, 1) := by decide +kernel
theorem dX6_readWord_36 : decode cX6_readWord 36 = .ok (.getfield 53, 3) := by decide +kernel
theorem dX6_readWord_39 : decode cX6_readWord 39 = .ok (.aload_n 1, 1) := by decide +kernel
theorem dX6_readWord_40 : decode cX6_readWord 40 = .ok (.getfield 49, 3) := by decide +kernel
theorem dX6_readWord_43 : decode cX6_readWord 43 = .ok (.aload_n 0, 1) := by decide +kernel
theorem dX6_readWord_44 : decode cX6_readWord 44 = .ok (.getfield 9, 3) := by decide +kernel
theorem dX6_readWord_47 : decode cX6_readWord 47 = .ok (.aload_n 0, 1) := by decide +kernel
theorem dX6_readWord_48 : decode cX6_readWord 48 = .ok (.getfield 29, 3) := by decide +kernel
theorem dX6_readWord_51 : decode cX6_readWord 51 = .ok (.baload, 1) := by decide +kernel
theorem dX6_readWord_52 : decode cX6_readWord 52 = .ok (.bipush 97, 2) := by decide +kernel
theorem dX6_readWord_54 : decode cX6_readWord 54 = .ok (.isub, 1) := by decide +kernel
theorem dX6_readWord_55 : decode cX6_readWord 55 = .ok (.iastore, 1) := by decide +kernel
theorem dX6_readWord_56 : decode cX6_readWord 56 = .ok (.aload_n 1, 1) := by decide +kernel
theorem dX6_readWord_57 : decode cX6_readWord 57 = .ok (.dup, 1) := by decide +kernel
theorem dX6_readWord_58 : decode cX6_readWord 58 = .ok (.getfield 49, 3) := by decide +kernel
theorem dX6_readWord_61 : decode cX6_readWord 61 = .ok (.iconst 1, 1) := by decide +kernel
theorem dX6_readWord_62 : decode cX6_readWord 62 = .ok (.iadd, 1) := by decide +kernel
theorem dX6_readWord_63 : decode cX6_readWord 63 = .ok (.putfield 49, 3) := by decide +kernel
theorem dX6_readWord_66 : decode cX6_readWord 66 = .ok (.aload_n 0, 1) := by decide +kernel
theorem dX6_readWord_67 : decode cX6_readWord 67 = .ok (.dup, 1) := by decide +kernel
theorem dX6_readWord_68 : decode cX6_readWord 68 = .ok (.getfield 29, 3) := by decide +kernel
theorem dX6_readWord_71 : decode cX6_readWord 71 = .ok (.iconst 1, 1) := by decide +kernel
theorem dX6_readWord_72 : decode cX6_readWord 72 = .ok (.iadd, 1) := by decide +kernel
theorem dX6_readWord_73 : decode cX6_readWord 73 = .ok (.putfield 29, 3) := by decide +kernel
theorem dX6_readWord_76 : decode cX6_readWord 76 = .ok (.goto (-65), 3) := by decide +kernel
theorem dX6_readWord_79 : decode cX6_readWord 79 = .ok (.aload_n 1, 1) := by decide +kernel
theorem dX6_readWord_80 : decode cX6_readWord 80 = .ok (.getfield 49, 3) := by decide +kernel
theorem dX6_readWord_83 : decode cX6_readWord 83 = .ok (.ifCond .ne 11, 3) := by decide +kernel
theorem dX6_readWord_86 : decode cX6_readWord 86 = .ok (.aload_n 0, 1) := by decide +kernel
theorem dX6_readWord_87 : decode cX6_readWord 87 = .ok (.getfield 29, 3) := by decide +kernel
theorem dX6_readWord_90 : decode cX6_readWord 90 = .ok (.invokestatic 37, 3) := by decide +kernel
theorem dX6_readWord_93 : decode cX6_readWord 93 = .ok (.ireturn, 1) := by decide +kernel
theorem dX6_readWord_94 : decode cX6_readWord 94 = .ok (.aload_n 0, 1) := by decide +kernel
theorem dX6_readWord_95 : decode cX6_readWord 95 = .ok (.invokevirtual 45, 3) := by decide +kernel
theorem dX6_readWord_98 : decode cX6_readWord 98 = .ok (.bipush 58, 2) := by decide +kernel
theorem dX6_readWord_100 : decode cX6_readWord 100 = .ok (.if_icmp .eq 5, 3) := by decide +kernel
theorem dX6_readWord_103 : decode cX6_readWord 103 = .ok (.iconst 0, 1) := by decide +kernel
theorem dX6_readWord_104 : decode cX6_readWord 104 = .ok (.ireturn, 1) := by decide +kernel
theorem dX6_readWord_105 : decode cX6_readWord 105 = .ok (.aload_n 0, 1) := by decide +kernel
theorem dX6_readWord_106 : decode cX6_readWord 106 = .ok (.dup, 1) := by decide +kernel
theorem dX6_readWord_107 : decode cX6_readWord 107 = .ok (.getfield 29, 3) := by decide +kernel
theorem dX6_readWord_110 : decode cX6_readWord 110 = .ok (.iconst 1, 1) := by decide +kernel
theorem dX6_readWord_111 : decode cX6_readWord 111 = .ok (.iadd, 1) := by decide +kernel
theorem dX6_readWord_112 : decode cX6_readWord 112 = .ok (.putfield 29, 3) := by decide +kernel
theorem dX6_readWord_115 : decode cX6_readWord 115 = .ok (.aload_n 0, 1) := by decide +kernel
theorem dX6_readWord_116 : decode cX6_readWord 116 = .ok (.aload_n 1, 1) := by decide +kernel
theorem dX6_readWord_117 : decode cX6_readWord 117 = .ok (.invokevirtual 56, 3) := by decide +kernel
theorem dX6_readWord_120 : decode cX6_readWord 120 = .ok (.ireturn, 1) := by decide +kernel
theorem dX6_readPay_0 : decode cX6_readPay 0 = .ok (.aload_n 0, 1) := by decide +kernel
theorem dX6_readPay_1 : decode cX6_readPay 1 = .ok (.invokevirtual 45, 3) := by decide +kernel
theorem dX6_readPay_4 : decode cX6_readPay 4 = .ok (.invokestatic 59, 3) := by decide +kernel
theorem dX6_readPay_7 : decode cX6_readPay 7 = .ok (.ifCond .ne 11, 3) := by decide +kernel
theorem dX6_readPay_10 : decode cX6_readPay 10 = .ok (.aload_n 0, 1) := by decide +kernel
theorem dX6_readPay_11 : decode cX6_readPay 11 = .ok (.getfield 29, 3) := by decide +kernel
theorem dX6_readPay_14 : decode cX6_readPay 14 = .ok (.invokestatic 37, 3) := by decide +kernel
theorem dX6_readPay_17 : decode cX6_readPay 17 = .ok (.ireturn, 1) := by decide +kernel
theorem dX6_readPay_18 : decode cX6_readPay 18 = .ok (.aload_n 0, 1) := by decide +kernel
theorem dX6_readPay_19 : decode cX6_readPay 19 = .ok (.getfield 29, 3) := by decide +kernel
theorem dX6_readPay_22 : decode cX6_readPay 22 = .ok (.istore_n 2, 1) := by decide +kernel
theorem dX6_readPay_23 : decode cX6_readPay 23 = .ok (.iconst 0, 1) := by decide +kernel
theorem dX6_readPay_24 : decode cX6_readPay 24 = .ok (.istore_n 3, 1) := by decide +kernel
theorem dX6_readPay_25 : decode cX6_readPay 25 = .ok (.aload_n 0, 1) := by decide +kernel
theorem dX6_readPay_26 : decode cX6_readPay 26 = .ok (.getfield 29, 3) := by decide +kernel
theorem dX6_readPay_29 : decode cX6_readPay 29 = .ok (.aload_n 0, 1) := by decide +kernel
theorem dX6_readPay_30 : decode cX6_readPay 30 = .ok (.getfield 15, 3) := by decide +kernel
theorem dX6_readPay_33 : decode cX6_readPay 33 = .ok (.if_icmp .ge 54, 3) := by decide +kernel
theorem dX6_readPay_36 : decode cX6_readPay 36 = .ok (.aload_n 0, 1) := by decide +kernel
theorem dX6_readPay_37 : decode cX6_readPay 37 = .ok (.getfield 9, 3) := by decide +kernel
theorem dX6_readPay_40 : decode cX6_readPay 40 = .ok (.aload_n 0, 1) := by decide +kernel
theorem dX6_readPay_41 : decode cX6_readPay 41 = .ok (.getfield 29, 3) := by decide +kernel
theorem dX6_readPay_44 : decode cX6_readPay 44 = .ok (.baload, 1) := by decide +kernel
theorem dX6_readPay_45 : decode cX6_readPay 45 = .ok (.invokestatic 59, 3) := by decide +kernel
theorem dX6_readPay_48 : decode cX6_readPay 48 = .ok (.ifCond .eq 39, 3) := by decide +kernel
theorem dX6_readPay_51 : decode cX6_readPay 51 = .ok (.bipush 100, 2) := by decide +kernel
theorem dX6_readPay_53 : decode cX6_readPay 53 = .ok (.bipush 10, 2) := by decide +kernel
theorem dX6_readPay_55 : decode cX6_readPay 55 = .ok (.iload_n 3, 1) := by decide +kernel
theorem dX6_readPay_56 : decode cX6_readPay 56 = .ok (.imul, 1) := by decide +kernel
theorem dX6_readPay_57 : decode cX6_readPay 57 = .ok (.aload_n 0, 1) := by decide +kernel
theorem dX6_readPay_58 : decode cX6_readPay 58 = .ok (.getfield 9, 3) := by decide +kernel
theorem dX6_readPay_61 : decode cX6_readPay 61 = .ok (.aload_n 0, 1) := by decide +kernel
theorem dX6_readPay_62 : decode cX6_readPay 62 = .ok (.getfield 29, 3) := by decide +kernel
theorem dX6_readPay_65 : decode cX6_readPay 65 = .ok (.baload, 1) := by decide +kernel
theorem dX6_readPay_66 : decode cX6_readPay 66 = .ok (.iadd, 1) := by decide +kernel
theorem dX6_readPay_67 : decode cX6_readPay 67 = .ok (.bipush 48, 2) := by decide +kernel
theorem dX6_readPay_69 : decode cX6_readPay 69 = .ok (.isub, 1) := by decide +kernel
theorem dX6_readPay_70 : decode cX6_readPay 70 = .ok (.invokestatic 63, 3) := by decide +kernel
theorem dX6_readPay_73 : decode cX6_readPay 73 = .ok (.istore_n 3, 1) := by decide +kernel
theorem dX6_readPay_74 : decode cX6_readPay 74 = .ok (.aload_n 0, 1) := by decide +kernel
theorem dX6_readPay_75 : decode cX6_readPay 75 = .ok (.dup, 1) := by decide +kernel
theorem dX6_readPay_76 : decode cX6_readPay 76 = .ok (.getfield 29, 3) := by decide +kernel
theorem dX6_readPay_79 : decode cX6_readPay 79 = .ok (.iconst 1, 1) := by decide +kernel
theorem dX6_readPay_80 : decode cX6_readPay 80 = .ok (.iadd, 1) := by decide +kernel
theorem dX6_readPay_81 : decode cX6_readPay 81 = .ok (.putfield 29, 3) := by decide +kernel
theorem dX6_readPay_84 : decode cX6_readPay 84 = .ok (.goto (-59), 3) := by decide +kernel
theorem dX6_readPay_87 : decode cX6_readPay 87 = .ok (.aload_n 1, 1) := by decide +kernel
theorem dX6_readPay_88 : decode cX6_readPay 88 = .ok (.iload_n 3, 1) := by decide +kernel
theorem dX6_readPay_89 : decode cX6_readPay 89 = .ok (.putfield 50, 3) := by decide +kernel
theorem dX6_readPay_92 : decode cX6_readPay 92 = .ok (.iload_n 3, 1) := by decide +kernel
theorem dX6_readPay_93 : decode cX6_readPay 93 = .ok (.bipush 99, 2) := by decide +kernel
theorem dX6_readPay_95 : decode cX6_readPay 95 = .ok (.if_icmp .le 10, 3) := by decide +kernel
theorem dX6_readPay_98 : decode cX6_readPay 98 = .ok (.iload_n 2, 1) := by decide +kernel
theorem dX6_readPay_99 : decode cX6_readPay 99 = .ok (.invokestatic 37, 3) := by decide +kernel
theorem dX6_readPay_102 : decode cX6_readPay 102 = .ok (.goto 4, 3) := by decide +kernel
theorem dX6_readPay_105 : decode cX6_readPay 105 = .ok (.iconst 0, 1) := by decide +kernel
theorem dX6_readPay_106 : decode cX6_readPay 106 = .ok (.ireturn, 1) := by decide +kernel
theorem dX6_isFigure_0 : decode cX6_isFigure 0 = .ok (.iload_n 0, 1) := by decide +kernel
theorem dX6_isFigure_1 : decode cX6_isFigure 1 = .ok (.bipush 48, 2) := by decide +kernel
theorem dX6_isFigure_3 : decode cX6_isFigure 3 = .ok (.isub, 1) := by decide +kernel
theorem dX6_isFigure_4 : decode cX6_isFigure 4 = .ok (.bipush 10, 2) := by decide +kernel
theorem dX6_isFigure_6 : decode cX6_isFigure 6 = .ok (.invokestatic 33, 3) := by decide +kernel
theorem dX6_isFigure_9 : decode cX6_isFigure 9 = .ok (.ireturn, 1) := by decide +kernel
theorem dX6_faultAt_0 : decode cX6_faultAt 0 = .ok (.bipush (-20), 2) := by decide +kernel
theorem dX6_faultAt_2 : decode cX6_faultAt 2 = .ok (.iload_n 0, 1) := by decide +kernel
theorem dX6_faultAt_3 : decode cX6_faultAt 3 = .ok (.isub, 1) := by decide +kernel
theorem dX6_faultAt_4 : decode cX6_faultAt 4 = .ok (.ireturn, 1) := by decide +kernel
theorem dX6_nextSign_0 : decode cX6_nextSign 0 = .ok (.aload_n 0, 1) := by decide +kernel
theorem dX6_nextSign_1 : decode cX6_nextSign 1 = .ok (.getfield 29, 3) := by decide +kernel
theorem dX6_nextSign_4 : decode cX6_nextSign 4 = .ok (.aload_n 0, 1) := by decide +kernel
theorem dX6_nextSign_5 : decode cX6_nextSign 5 = .ok (.getfield 15, 3) := by decide +kernel
theorem dX6_nextSign_8 : decode cX6_nextSign 8 = .ok (.if_icmp .ge 30, 3) := by decide +kernel
theorem dX6_nextSign_11 : decode cX6_nextSign 11 = .ok (.aload_n 0, 1) := by decide +kernel
theorem dX6_nextSign_12 : decode cX6_nextSign 12 = .ok (.getfield 9, 3) := by decide +kernel
theorem dX6_nextSign_15 : decode cX6_nextSign 15 = .ok (.aload_n 0, 1) := by decide +kernel
theorem dX6_nextSign_16 : decode cX6_nextSign 16 = .ok (.getfield 29, 3) := by decide +kernel
theorem dX6_nextSign_19 : decode cX6_nextSign 19 = .ok (.baload, 1) := by decide +kernel
theorem dX6_nextSign_20 : decode cX6_nextSign 20 = .ok (.bipush 32, 2) := by decide +kernel
theorem dX6_nextSign_22 : decode cX6_nextSign 22 = .ok (.if_icmp .ne 16, 3) := by decide +kernel
theorem dX6_nextSign_25 : decode cX6_nextSign 25 = .ok (.aload_n 0, 1) := by decide +kernel
theorem dX6_nextSign_26 : decode cX6_nextSign 26 = .ok (.dup, 1) := by decide +kernel
theorem dX6_nextSign_27 : decode cX6_nextSign 27 = .ok (.getfield 29, 3) := by decide +kernel
theorem dX6_nextSign_30 : decode cX6_nextSign 30 = .ok (.iconst 1, 1) := by decide +kernel
theorem dX6_nextSign_31 : decode cX6_nextSign 31 = .ok (.iadd, 1) := by decide +kernel
theorem dX6_nextSign_32 : decode cX6_nextSign 32 = .ok (.putfield 29, 3) := by decide +kernel
theorem dX6_nextSign_35 : decode cX6_nextSign 35 = .ok (.goto (-35), 3) := by decide +kernel
theorem dX6_nextSign_38 : decode cX6_nextSign 38 = .ok (.aload_n 0, 1) := by decide +kernel
theorem dX6_nextSign_39 : decode cX6_nextSign 39 = .ok (.getfield 29, 3) := by decide +kernel
theorem dX6_nextSign_42 : decode cX6_nextSign 42 = .ok (.aload_n 0, 1) := by decide +kernel
theorem dX6_nextSign_43 : decode cX6_nextSign 43 = .ok (.getfield 15, 3) := by decide +kernel
theorem dX6_nextSign_46 : decode cX6_nextSign 46 = .ok (.if_icmp .ge 15, 3) := by decide +kernel
theorem dX6_nextSign_49 : decode cX6_nextSign 49 = .ok (.aload_n 0, 1) := by decide +kernel
theorem dX6_nextSign_50 : decode cX6_nextSign 50 = .ok (.getfield 9, 3) := by decide +kernel
theorem dX6_nextSign_53 : decode cX6_nextSign 53 = .ok (.aload_n 0, 1) := by decide +kernel
theorem dX6_nextSign_54 : decode cX6_nextSign 54 = .ok (.getfield 29, 3) := by decide +kernel
theorem dX6_nextSign_57 : decode cX6_nextSign 57 = .ok (.baload, 1) := by decide +kernel
theorem dX6_nextSign_58 : decode cX6_nextSign 58 = .ok (.goto 4, 3) := by decide +kernel
theorem dX6_nextSign_61 : decode cX6_nextSign 61 = .ok (.iconst (-1), 1) := by decide +kernel
theorem dX6_nextSign_62 : decode cX6_nextSign 62 = .ok (.ireturn, 1) := by decide +kernel
theorem dX7_init_0 : decode cX7_init 0 = .ok (.aload_n 0, 1) := by decide +kernel
theorem dX7_init_1 : decode cX7_init 1 = .ok (.invokespecial 3, 3) := by decide +kernel
theorem dX7_init_4 : decode cX7_init 4 = .ok (.aload_n 0, 1) := by decide +kernel
theorem dX7_init_5 : decode cX7_init 5 = .ok (.iconst 0, 1) := by decide +kernel
theorem dX7_init_6 : decode cX7_init 6 = .ok (.putfield 9, 3) := by decide +kernel
theorem dX7_init_9 : decode cX7_init 9 = .ok (.aload_n 0, 1) := by decide +kernel
theorem dX7_init_10 : decode cX7_init 10 = .ok (.bipush 10, 2) := by decide +kernel
theorem dX7_init_12 : decode cX7_init 12 = .ok (.putfield 15, 3) := by decide +kernel
theorem dX7_init_15 : decode cX7_init 15 = .ok (.aload_n 0, 1) := by decide +kernel
theorem dX7_init_16 : decode cX7_init 16 = .ok (.bipush 6, 2) := by decide +kernel
theorem dX7_init_18 : decode cX7_init 18 = .ok (.newarray .int, 2) := by decide +kernel
theorem dX7_init_20 : decode cX7_init 20 = .ok (.putfield 18, 3) := by decide +kernel
theorem dX7_init_23 : decode cX7_init 23 = .ok (.return_, 1) := by decide +kernel
theorem dX7_copyFrom_0 : decode cX7_copyFrom 0 = .ok (.aload_n 0, 1) := by decide +kernel
theorem dX7_copyFrom_1 : decode cX7_copyFrom 1 = .ok (.aload_n 1, 1) := by decide +kernel
theorem dX7_copyFrom_2 : decode cX7_copyFrom 2 = .ok (.getfield 9, 3) := by decide +kernel
theorem dX7_copyFrom_5 : decode cX7_copyFrom 5 = .ok (.putfield 9, 3) := by decide +kernel
theorem dX7_copyFrom_8 : decode cX7_copyFrom 8 = .ok (.aload_n 0, 1) := by decide +kernel
theorem dX7_copyFrom_9 : decode cX7_copyFrom 9 = .ok (.aload_n 1, 1) := by decide +kernel
theorem dX7_copyFrom_10 : decode cX7_copyFrom 10 = .ok (.getfield 15, 3) := by decide +kernel
theorem dX7_copyFrom_13 : decode cX7_copyFrom 13 = .ok (.putfield 15, 3) := by decide +kernel
theorem dX7_copyFrom_16 : decode cX7_copyFrom 16 = .ok (.aload_n 1, 1) := by decide +kernel
theorem dX7_copyFrom_17 : decode cX7_copyFrom 17 = .ok (.getfield 18, 3) := by decide +kernel
theorem dX7_copyFrom_20 : decode cX7_copyFrom 20 = .ok (.iconst 0, 1) := by decide +kernel
theorem dX7_copyFrom_21 : decode cX7_copyFrom 21 = .ok (.aload_n 0, 1) := by decide +kernel
theorem dX7_copyFrom_22 : decode cX7_copyFrom 22 = .ok (.getfield 18, 3) := by decide +kernel
theorem dX7_copyFrom_25 : decode cX7_copyFrom 25 = .ok (.iconst 0, 1) := by decide +kernel
theorem dX7_copyFrom_26 : decode cX7_copyFrom 26 = .ok (.bipush 6, 2) := by decide +kernel
theorem dX7_copyFrom_28 : decode cX7_copyFrom 28 = .ok (.invokestatic 22, 3) := by decide +kernel
theorem dX7_copyFrom_31 : decode cX7_copyFrom 31 = .ok (.return_, 1) := by decide +kernel
theorem dX7_isLike_0 : decode cX7_isLike 0 = .ok (.aload_n 0, 1) := by decide +kernel
theorem dX7_isLike_1 : decode cX7_isLike 1 = .ok (.getfield 9, 3) := by decide +kernel
theorem dX7_isLike_4 : decode cX7_isLike 4 = .ok (.aload_n 1, 1) := by decide +kernel
theorem dX7_isLike_5 : decode cX7_isLike 5 = .ok (.getfield 9, 3) := by decide +kernel
theorem dX7_isLike_8 : decode cX7_isLike 8 = .ok (.if_icmp .eq 5, 3) := by decide +kernel
theorem dX7_isLike_11 : decode cX7_isLike 11 = .ok (.iconst 0, 1) := by decide +kernel
theorem dX7_isLike_12 : decode cX7_isLike 12 = .ok (.ireturn, 1) := by decide +kernel
theorem dX7_isLike_13 : decode cX7_isLike 13 = .ok (.iconst 0, 1) := by decide +kernel
theorem dX7_isLike_14 : decode cX7_isLike 14 = .ok (.istore_n 2, 1) := by decide +kernel
theorem dX7_isLike_15 : decode cX7_isLike 15 = .ok (.iload_n 2, 1) := by decide +kernel
theorem dX7_isLike_16 : decode cX7_isLike 16 = .ok (.aload_n 0, 1) := by decide +kernel
theorem dX7_isLike_17 : decode cX7_isLike 17 = .ok (.getfield 9, 3) := by decide +kernel
theorem dX7_isLike_20 : decode cX7_isLike 20 = .ok (.if_icmp .ge 26, 3) := by decide +kernel
theorem dX7_isLike_23 : decode cX7_isLike 23 = .ok (.aload_n 0, 1) := by decide +kernel
theorem dX7_isLike_24 : decode cX7_isLike 24 = .ok (.getfield 18, 3) := by decide +kernel
theorem dX7_isLike_27 : decode cX7_isLike 27 = .ok (.iload_n 2, 1) := by decide +kernel
theorem dX7_isLike_28 : decode cX7_isLike 28 = .ok (.iaload, 1) := by decide +kernel
theorem dX7_isLike_29 : decode cX7_isLike 29 = .ok (.aload_n 1, 1) := by decide +kernel
theorem dX7_isLike_30 : decode cX7_isLike 30 = .ok (.getfield 18, 3) := by decide +kernel
theorem dX7_isLike_33 : decode cX7_isLike 33 = .ok (.iload_n 2, 1) := by decide +kernel
theorem dX7_isLike_34 : decode cX7_isLike 34 = .ok (.iaload, 1) := by decide +kernel
theorem dX7_isLike_35 : decode cX7_isLike 35 = .ok (.if_icmp .eq 5, 3) := by decide +kernel
theorem dX7_isLike_38 : decode cX7_isLike 38 = .ok (.iconst 0, 1) := by decide +kernel
theorem dX7_isLike_39 : decode cX7_isLike 39 = .ok (.ireturn, 1) := by decide +kernel
theorem dX7_isLike_40 : decode cX7_isLike 40 = .ok (.iinc 2 1, 3) := by decide +kernel
theorem dX7_isLike_43 : decode cX7_isLike 43 = .ok (.goto (-28), 3) := by decide +kernel
theorem dX7_isLike_46 : decode cX7_isLike 46 = .ok (.iconst 1, 1) := by decide +kernel
theorem dX7_isLike_47 : decode cX7_isLike 47 = .ok (.ireturn, 1) := by decide +kernel
theorem dX7_hasFormIn_0 : decode cX7_hasFormIn 0 = .ok (.iconst 0, 1) := by decide +kernel
theorem dX7_hasFormIn_1 : decode cX7_hasFormIn 1 = .ok (.istore_n 3, 1) := by decide +kernel
theorem dX7_hasFormIn_2 : decode cX7_hasFormIn 2 = .ok (.iconst 0, 1) := by decide +kernel
theorem dX7_hasFormIn_3 : decode cX7_hasFormIn 3 = .ok (.istore 4, 2) := by decide +kernel
theorem dX7_hasFormIn_5 : decode cX7_hasFormIn 5 = .ok (.iload 4, 2) := by decide +kernel
theorem dX7_hasFormIn_7 : decode cX7_hasFormIn 7 = .ok (.aload_n 0, 1) := by decide +kernel
theorem dX7_hasFormIn_8 : decode cX7_hasFormIn 8 = .ok (.getfield 9, 3) := by decide +kernel
theorem dX7_hasFormIn_11 : decode cX7_hasFormIn 11 = .ok (.if_icmp .ge 38, 3) := by decide +kernel
theorem dX7_hasFormIn_14 : decode cX7_hasFormIn 14 = .ok (.iload_n 1, 1) := by decide +kernel
theorem dX7_hasFormIn_15 : decode cX7_hasFormIn 15 = .ok (.iload 4, 2) := by decide +kernel
theorem dX7_hasFormIn_17 : decode cX7_hasFormIn 17 = .ok (.ishr, 1) := by decide +kernel
theorem dX7_hasFormIn_18 : decode cX7_hasFormIn 18 = .ok (.iconst 1, 1) := by decide +kernel
theorem dX7_hasFormIn_19 : decode cX7_hasFormIn 19 = .ok (.iand, 1) := by decide +kernel
theorem dX7_hasFormIn_20 : decode cX7_hasFormIn 20 = .ok (.iconst 1, 1) := by decide +kernel
theorem dX7_hasFormIn_21 : decode cX7_hasFormIn 21 = .ok (.if_icmp .ne 22, 3) := by decide +kernel
theorem dX7_hasFormIn_24 : decode cX7_hasFormIn 24 = .ok (.aload_n 2, 1) := by decide +kernel
theorem dX7_hasFormIn_25 : decode cX7_hasFormIn 25 = .ok (.aload_n 0, 1) := by decide +kernel
theorem dX7_hasFormIn_26 : decode cX7_hasFormIn 26 = .ok (.getfield 18, 3) := by decide +kernel
theorem dX7_hasFormIn_29 : decode cX7_hasFormIn 29 = .ok (.iload 4, 2) := by decide +kernel
theorem dX7_hasFormIn_31 : decode cX7_hasFormIn 31 = .ok (.iaload, 1) := by decide +kernel
theorem dX7_hasFormIn_32 : decode cX7_hasFormIn 32 = .ok (.iload_n 3, 1) := by decide +kernel
theorem dX7_hasFormIn_33 : decode cX7_hasFormIn 33 = .ok (.invokevirtual 28, 3) := by decide +kernel
theorem dX7_hasFormIn_36 : decode cX7_hasFormIn 36 = .ok (.istore_n 3, 1) := by decide +kernel
theorem dX7_hasFormIn_37 : decode cX7_hasFormIn 37 = .ok (.iload_n 3, 1) := by decide +kernel
theorem dX7_hasFormIn_38 : decode cX7_hasFormIn 38 = .ok (.ifCond .ge 5, 3) := by decide +kernel
theorem dX7_hasFormIn_41 : decode cX7_hasFormIn 41 = .ok (.iconst 0, 1) := by decide +kernel
theorem dX7_hasFormIn_42 : decode cX7_hasFormIn 42 = .ok (.ireturn, 1) := by decide +kernel
theorem dX7_hasFormIn_43 : decode cX7_hasFormIn 43 = .ok (.iinc 4 1, 3) := by decide +kernel
theorem dX7_hasFormIn_46 : decode cX7_hasFormIn 46 = .ok (.goto (-41), 3) := by decide +kernel
theorem dX7_hasFormIn_49 : decode cX7_hasFormIn 49 = .ok (.iconst 1, 1) := by decide +kernel
theorem dX7_hasFormIn_50 : decode cX7_hasFormIn 50 = .ok (.ireturn, 1) := by decide +kernel
theorem dX7_placeBehind_0 : decode cX7_placeBehind 0 = .ok (.iload_n 2, 1) := by decide +kernel
theorem dX7_placeBehind_1 : decode cX7_placeBehind 1 = .ok (.istore_n 3, 1) := by decide +kernel
theorem dX7_placeBehind_2 : decode cX7_placeBehind 2 = .ok (.iload_n 3, 1) := by decide +kernel
theorem dX7_placeBehind_3 : decode cX7_placeBehind 3 = .ok (.aload_n 0, 1) := by decide +kernel
theorem dX7_placeBehind_4 : decode cX7_placeBehind 4 = .ok (.getfield 9, 3) := by decide +kernel
theorem dX7_placeBehind_7 : decode cX7_placeBehind 7 = .ok (.if_icmp .ge 23, 3) := by decide +kernel
theorem dX7_placeBehind_10 : decode cX7_placeBehind 10 = .ok (.aload_n 0, 1) := by decide +kernel
theorem dX7_placeBehind_11 : decode cX7_placeBehind 11 = .ok (.getfield 18, 3) := by decide +kernel
theorem dX7_placeBehind_14 : decode cX7_placeBehind 14 = .ok (.iload_n 3, 1) := by decide +kernel
theorem dX7_placeBehind_15 : decode cX7_placeBehind 15 = .ok (.iaload, 1) := by decide +kernel
theorem dX7_placeBehind_16 : decode cX7_placeBehind 16 = .ok (.iload_n 1, 1) := by decide +kernel
theorem dX7_placeBehind_17 : decode cX7_placeBehind 17 = .ok (.if_icmp .ne 7, 3) := by decide +kernel
theorem dX7_placeBehind_20 : decode cX7_placeBehind 20 = .ok (.iload_n 3, 1) := by decide +kernel
theorem dX7_placeBehind_21 : decode cX7_placeBehind 21 = .ok (.iconst 1, 1) := by decide +kernel
theorem dX7_placeBehind_22 : decode cX7_placeBehind 22 = .ok (.iadd, 1) := by decide +kernel
theorem dX7_placeBehind_23 : decode cX7_placeBehind 23 = .ok (.ireturn, 1) := by decide +kernel
theorem dX7_placeBehind_24 : decode cX7_placeBehind 24 = .ok (.iinc 3 1, 3) := by decide +kernel
theorem dX7_placeBehind_27 : decode cX7_placeBehind 27 = .ok (.goto (-25), 3) := by decide +kernel
theorem dX7_placeBehind_30 : decode cX7_placeBehind 30 = .ok (.bipush (-4), 2) := by decide +kernel
theorem dX7_placeBehind_32 : decode cX7_placeBehind 32 = .ok (.ireturn, 1) := by decide +kernel
theorem dX8_init_0 : decode cX8_init 0 = .ok (.aload_n 0, 1) := by decide +kernel
theorem dX8_init_1 : decode cX8_init 1 = .ok (.invokespecial 3, 3) := by decide +kernel
theorem dX8_init_4 : decode cX8_init 4 = .ok (.aload_n 0, 1) := by decide +kernel
theorem dX8_init_5 : decode cX8_init 5 = .ok (.new 9, 3) := by decide +kernel
theorem dX8_init_8 : decode cX8_init 8 = .ok (.dup, 1) := by decide +kernel
theorem dX8_init_9 : decode cX8_init 9 = .ok (.invokespecial 11, 3) := by decide +kernel
theorem dX8_init_12 : decode cX8_init 12 = .ok (.putfield 12, 3) := by decide +kernel
theorem dX8_init_15 : decode cX8_init 15 = .ok (.aload_n 0, 1) := by decide +kernel
theorem dX8_init_16 : decode cX8_init 16 = .ok (.new 9, 3) := by decide +kernel
theorem dX8_init_19 : decode cX8_init 19 = .ok (.dup, 1) := by decide +kernel
theorem dX8_init_20 : decode cX8_init 20 = .ok (.invokespecial 11, 3) := by decide +kernel
theorem dX8_init_23 : decode cX8_init 23 = .ok (.putfield 16, 3) := by decide +kernel
theorem dX8_init_26 : decode cX8_init 26 = .ok (.aload_n 0, 1) := by decide +kernel
theorem dX8_init_27 : decode cX8_init 27 = .ok (.iconst 0, 1) := by decide +kernel
theorem dX8_init_28 : decode cX8_init 28 = .ok (.putfield 19, 3) := by decide +kernel
theorem dX8_init_31 : decode cX8_init 31 = .ok (.aload_n 0, 1) := by decide +kernel
theorem dX8_init_32 : decode cX8_init 32 = .ok (.new 23, 3) := by decide +kernel
end
section
theorem dX8_init_35 : decode cX8_init 35 = .ok (.dup, 1) := by decide +kernel
theorem dX8_init_36 : decode cX8_init 36 = .ok (.invokespecial 25, 3) := by decide +kernel
theorem dX8_init_39 : decode cX8_init 39 = .ok (.putfield 26, 3) := by decide +kernel
theorem dX8_init_42 : decode cX8_init 42 = .ok (.aload_n 0, 1) := by decide +kernel
theorem dX8_init_43 : decode cX8_init 43 = .ok (.new 30, 3) := by decide +kernel
theorem dX8_init_46 : decode cX8_init 46 = .ok (.dup, 1) := by decide +kernel
theorem dX8_init_47 : decode cX8_init 47 = .ok (.invokespecial 32, 3) := by decide +kernel
theorem dX8_init_50 : decode cX8_init 50 = .ok (.putfield 33, 3) := by decide +kernel
theorem dX8_init_53 : decode cX8_init 53 = .ok (.aload_n 0, 1) := by decide +kernel
theorem dX8_init_54 : decode cX8_init 54 = .ok (.new 37, 3) := by decide +kernel
theorem dX8_init_57 : decode cX8_init 57 = .ok (.dup, 1) := by decide +kernel
theorem dX8_init_58 : decode cX8_init 58 = .ok (.invokespecial 39, 3) := by decide +kernel
theorem dX8_init_61 : decode cX8_init 61 = .ok (.putfield 40, 3) := by decide +kernel
theorem dX8_init_64 : decode cX8_init 64 = .ok (.aload_n 0, 1) := by decide +kernel
theorem dX8_init_65 : decode cX8_init 65 = .ok (.iconst 4, 1) := by decide +kernel
theorem dX8_init_66 : decode cX8_init 66 = .ok (.anewarray 44, 3) := by decide +kernel
theorem dX8_init_69 : decode cX8_init 69 = .ok (.putfield 46, 3) := by decide +kernel
theorem dX8_init_72 : decode cX8_init 72 = .ok (.iconst 0, 1) := by decide +kernel
theorem dX8_init_73 : decode cX8_init 73 = .ok (.istore_n 1, 1) := by decide +kernel
theorem dX8_init_74 : decode cX8_init 74 = .ok (.iload_n 1, 1) := by decide +kernel
theorem dX8_init_75 : decode cX8_init 75 = .ok (.iconst 4, 1) := by decide +kernel
theorem dX8_init_76 : decode cX8_init 76 = .ok (.if_icmp .ge 22, 3) := by decide +kernel
theorem dX8_init_79 : decode cX8_init 79 = .ok (.aload_n 0, 1) := by decide +kernel
theorem dX8_init_80 : decode cX8_init 80 = .ok (.getfield 46, 3) := by decide +kernel
theorem dX8_init_83 : decode cX8_init 83 = .ok (.iload_n 1, 1) := by decide +kernel
theorem dX8_init_84 : decode cX8_init 84 = .ok (.new 44, 3) := by decide +kernel
theorem dX8_init_87 : decode cX8_init 87 = .ok (.dup, 1) := by decide +kernel
theorem dX8_init_88 : decode cX8_init 88 = .ok (.invokespecial 50, 3) := by decide +kernel
theorem dX8_init_91 : decode cX8_init 91 = .ok (.aastore, 1) := by decide +kernel
theorem dX8_init_92 : decode cX8_init 92 = .ok (.iinc 1 1, 3) := by decide +kernel
theorem dX8_init_95 : decode cX8_init 95 = .ok (.goto (-21), 3) := by decide +kernel
theorem dX8_init_98 : decode cX8_init 98 = .ok (.return_, 1) := by decide +kernel
theorem dX8_strip_0 : decode cX8_strip 0 = .ok (.iload_n 1, 1) := by decide +kernel
theorem dX8_strip_1 : decode cX8_strip 1 = .ok (.bipush 6, 2) := by decide +kernel
theorem dX8_strip_3 : decode cX8_strip 3 = .ok (.invokestatic 51, 3) := by decide +kernel
theorem dX8_strip_6 : decode cX8_strip 6 = .ok (.ifCond .ne 5, 3) := by decide +kernel
theorem dX8_strip_9 : decode cX8_strip 9 = .ok (.iconst (-1), 1) := by decide +kernel
theorem dX8_strip_10 : decode cX8_strip 10 = .ok (.ireturn, 1) := by decide +kernel
theorem dX8_strip_11 : decode cX8_strip 11 = .ok (.aload_n 0, 1) := by decide +kernel
theorem dX8_strip_12 : decode cX8_strip 12 = .ok (.getfield 12, 3) := by decide +kernel
theorem dX8_strip_15 : decode cX8_strip 15 = .ok (.getfield 55, 3) := by decide +kernel
theorem dX8_strip_18 : decode cX8_strip 18 = .ok (.bipush 9, 2) := by decide +kernel
theorem dX8_strip_20 : decode cX8_strip 20 = .ok (.if_icmp .lt 6, 3) := by decide +kernel
theorem dX8_strip_23 : decode cX8_strip 23 = .ok (.bipush (-3), 2) := by decide +kernel
theorem dX8_strip_25 : decode cX8_strip 25 = .ok (.ireturn, 1) := by decide +kernel
theorem dX8_strip_26 : decode cX8_strip 26 = .ok (.aload_n 0, 1) := by decide +kernel
theorem dX8_strip_27 : decode cX8_strip 27 = .ok (.getfield 12, 3) := by decide +kernel
theorem dX8_strip_30 : decode cX8_strip 30 = .ok (.iload_n 1, 1) := by decide +kernel
theorem dX8_strip_31 : decode cX8_strip 31 = .ok (.invokevirtual 59, 3) := by decide +kernel
theorem dX8_strip_34 : decode cX8_strip 34 = .ok (.aload_n 0, 1) := by decide +kernel
theorem dX8_strip_35 : decode cX8_strip 35 = .ok (.getfield 12, 3) := by decide +kernel
theorem dX8_strip_38 : decode cX8_strip 38 = .ok (.getfield 55, 3) := by decide +kernel
theorem dX8_strip_41 : decode cX8_strip 41 = .ok (.iconst 1, 1) := by decide +kernel
theorem dX8_strip_42 : decode cX8_strip 42 = .ok (.isub, 1) := by decide +kernel
theorem dX8_strip_43 : decode cX8_strip 43 = .ok (.ireturn, 1) := by decide +kernel
theorem dX8_set_0 : decode cX8_set 0 = .ok (.iload_n 1, 1) := by decide +kernel
theorem dX8_set_1 : decode cX8_set 1 = .ok (.getstatic 63, 3) := by decide +kernel
theorem dX8_set_4 : decode cX8_set 4 = .ok (.arraylength, 1) := by decide +kernel
theorem dX8_set_5 : decode cX8_set 5 = .ok (.invokestatic 51, 3) := by decide +kernel
theorem dX8_set_8 : decode cX8_set 8 = .ok (.ifCond .eq 16, 3) := by decide +kernel
theorem dX8_set_11 : decode cX8_set 11 = .ok (.iload_n 2, 1) := by decide +kernel
theorem dX8_set_12 : decode cX8_set 12 = .ok (.ifCond .lt 12, 3) := by decide +kernel
theorem dX8_set_15 : decode cX8_set 15 = .ok (.iload_n 2, 1) := by decide +kernel
theorem dX8_set_16 : decode cX8_set 16 = .ok (.getstatic 63, 3) := by decide +kernel
theorem dX8_set_19 : decode cX8_set 19 = .ok (.iload_n 1, 1) := by decide +kernel
theorem dX8_set_20 : decode cX8_set 20 = .ok (.iaload, 1) := by decide +kernel
theorem dX8_set_21 : decode cX8_set 21 = .ok (.if_icmp .le 5, 3) := by decide +kernel
theorem dX8_set_24 : decode cX8_set 24 = .ok (.iconst (-1), 1) := by decide +kernel
theorem dX8_set_25 : decode cX8_set 25 = .ok (.ireturn, 1) := by decide +kernel
theorem dX8_set_26 : decode cX8_set 26 = .ok (.aload_n 0, 1) := by decide +kernel
theorem dX8_set_27 : decode cX8_set 27 = .ok (.getfield 12, 3) := by decide +kernel
theorem dX8_set_30 : decode cX8_set 30 = .ok (.getfield 67, 3) := by decide +kernel
theorem dX8_set_33 : decode cX8_set 33 = .ok (.iload_n 1, 1) := by decide +kernel
theorem dX8_set_34 : decode cX8_set 34 = .ok (.iaload, 1) := by decide +kernel
theorem dX8_set_35 : decode cX8_set 35 = .ok (.istore_n 3, 1) := by decide +kernel
theorem dX8_set_36 : decode cX8_set 36 = .ok (.aload_n 0, 1) := by decide +kernel
theorem dX8_set_37 : decode cX8_set 37 = .ok (.getfield 12, 3) := by decide +kernel
theorem dX8_set_40 : decode cX8_set 40 = .ok (.getfield 67, 3) := by decide +kernel
theorem dX8_set_43 : decode cX8_set 43 = .ok (.iload_n 1, 1) := by decide +kernel
theorem dX8_set_44 : decode cX8_set 44 = .ok (.iload_n 2, 1) := by decide +kernel
theorem dX8_set_45 : decode cX8_set 45 = .ok (.iastore, 1) := by decide +kernel
theorem dX8_set_46 : decode cX8_set 46 = .ok (.iload_n 3, 1) := by decide +kernel
theorem dX8_set_47 : decode cX8_set 47 = .ok (.ireturn, 1) := by decide +kernel
theorem dX8_grass_0 : decode cX8_grass 0 = .ok (.aload_n 0, 1) := by decide +kernel
theorem dX8_grass_1 : decode cX8_grass 1 = .ok (.iload_n 1, 1) := by decide +kernel
theorem dX8_grass_2 : decode cX8_grass 2 = .ok (.invokevirtual 70, 3) := by decide +kernel
theorem dX8_grass_5 : decode cX8_grass 5 = .ok (.ifCond .eq 29, 3) := by decide +kernel
theorem dX8_grass_8 : decode cX8_grass 8 = .ok (.iload_n 2, 1) := by decide +kernel
theorem dX8_grass_9 : decode cX8_grass 9 = .ok (.bipush 15, 2) := by decide +kernel
theorem dX8_grass_11 : decode cX8_grass 11 = .ok (.invokestatic 51, 3) := by decide +kernel
theorem dX8_grass_14 : decode cX8_grass 14 = .ok (.ifCond .eq 20, 3) := by decide +kernel
theorem dX8_grass_17 : decode cX8_grass 17 = .ok (.aload_n 0, 1) := by decide +kernel
theorem dX8_grass_18 : decode cX8_grass 18 = .ok (.getfield 12, 3) := by decide +kernel
theorem dX8_grass_21 : decode cX8_grass 21 = .ok (.getfield 74, 3) := by decide +kernel
theorem dX8_grass_24 : decode cX8_grass 24 = .ok (.iload_n 1, 1) := by decide +kernel
theorem dX8_grass_25 : decode cX8_grass 25 = .ok (.aaload, 1) := by decide +kernel
theorem dX8_grass_26 : decode cX8_grass 26 = .ok (.getfield 78, 3) := by decide +kernel
theorem dX8_grass_29 : decode cX8_grass 29 = .ok (.iload_n 2, 1) := by decide +kernel
theorem dX8_grass_30 : decode cX8_grass 30 = .ok (.iaload, 1) := by decide +kernel
theorem dX8_grass_31 : decode cX8_grass 31 = .ok (.goto 4, 3) := by decide +kernel
theorem dX8_grass_34 : decode cX8_grass 34 = .ok (.iconst (-1), 1) := by decide +kernel
theorem dX8_grass_35 : decode cX8_grass 35 = .ok (.ireturn, 1) := by decide +kernel
theorem dX8_letter_0 : decode cX8_letter 0 = .ok (.iload_n 1, 1) := by decide +kernel
theorem dX8_letter_1 : decode cX8_letter 1 = .ok (.bipush 26, 2) := by decide +kernel
theorem dX8_letter_3 : decode cX8_letter 3 = .ok (.invokestatic 51, 3) := by decide +kernel
theorem dX8_letter_6 : decode cX8_letter 6 = .ok (.ifCond .eq 11, 3) := by decide +kernel
theorem dX8_letter_9 : decode cX8_letter 9 = .ok (.getstatic 83, 3) := by decide +kernel
theorem dX8_letter_12 : decode cX8_letter 12 = .ok (.iload_n 1, 1) := by decide +kernel
theorem dX8_letter_13 : decode cX8_letter 13 = .ok (.iaload, 1) := by decide +kernel
theorem dX8_letter_14 : decode cX8_letter 14 = .ok (.goto 4, 3) := by decide +kernel
theorem dX8_letter_17 : decode cX8_letter 17 = .ok (.iconst (-1), 1) := by decide +kernel
theorem dX8_letter_18 : decode cX8_letter 18 = .ok (.ireturn, 1) := by decide +kernel
theorem dX8_seen_0 : decode cX8_seen 0 = .ok (.aload_n 0, 1) := by decide +kernel
theorem dX8_seen_1 : decode cX8_seen 1 = .ok (.iload_n 1, 1) := by decide +kernel
theorem dX8_seen_2 : decode cX8_seen 2 = .ok (.invokevirtual 70, 3) := by decide +kernel
theorem dX8_seen_5 : decode cX8_seen 5 = .ok (.ifCond .eq 14, 3) := by decide +kernel
theorem dX8_seen_8 : decode cX8_seen 8 = .ok (.aload_n 0, 1) := by decide +kernel
theorem dX8_seen_9 : decode cX8_seen 9 = .ok (.getfield 12, 3) := by decide +kernel
theorem dX8_seen_12 : decode cX8_seen 12 = .ok (.iload_n 1, 1) := by decide +kernel
theorem dX8_seen_13 : decode cX8_seen 13 = .ok (.invokevirtual 86, 3) := by decide +kernel
theorem dX8_seen_16 : decode cX8_seen 16 = .ok (.goto 4, 3) := by decide +kernel
theorem dX8_seen_19 : decode cX8_seen 19 = .ok (.iconst (-1), 1) := by decide +kernel
theorem dX8_seen_20 : decode cX8_seen 20 = .ok (.ireturn, 1) := by decide +kernel
theorem dX8_reads_0 : decode cX8_reads 0 = .ok (.aload_n 0, 1) := by decide +kernel
theorem dX8_reads_1 : decode cX8_reads 1 = .ok (.iload_n 1, 1) := by decide +kernel
theorem dX8_reads_2 : decode cX8_reads 2 = .ok (.invokevirtual 70, 3) := by decide +kernel
theorem dX8_reads_5 : decode cX8_reads 5 = .ok (.ifCond .eq 14, 3) := by decide +kernel
theorem dX8_reads_8 : decode cX8_reads 8 = .ok (.aload_n 0, 1) := by decide +kernel
theorem dX8_reads_9 : decode cX8_reads 9 = .ok (.getfield 12, 3) := by decide +kernel
theorem dX8_reads_12 : decode cX8_reads 12 = .ok (.iload_n 1, 1) := by decide +kernel
theorem dX8_reads_13 : decode cX8_reads 13 = .ok (.invokevirtual 90, 3) := by decide +kernel
theorem dX8_reads_16 : decode cX8_reads 16 = .ok (.goto 4, 3) := by decide +kernel
theorem dX8_reads_19 : decode cX8_reads 19 = .ok (.iconst (-1), 1) := by decide +kernel
theorem dX8_reads_20 : decode cX8_reads 20 = .ok (.ireturn, 1) := by decide +kernel
theorem dX8_off_0 : decode cX8_off 0 = .ok (.aload_n 0, 1) := by decide +kernel
theorem dX8_off_1 : decode cX8_off 1 = .ok (.iload_n 1, 1) := by decide +kernel
theorem dX8_off_2 : decode cX8_off 2 = .ok (.invokevirtual 70, 3) := by decide +kernel
theorem dX8_off_5 : decode cX8_off 5 = .ok (.ifCond .eq 20, 3) := by decide +kernel
theorem dX8_off_8 : decode cX8_off 8 = .ok (.aload_n 0, 1) := by decide +kernel
theorem dX8_off_9 : decode cX8_off 9 = .ok (.getfield 12, 3) := by decide +kernel
theorem dX8_off_12 : decode cX8_off 12 = .ok (.iload_n 1, 1) := by decide +kernel
theorem dX8_off_13 : decode cX8_off 13 = .ok (.invokevirtual 86, 3) := by decide +kernel
theorem dX8_off_16 : decode cX8_off 16 = .ok (.invokestatic 93, 3) := by decide +kernel
theorem dX8_off_19 : decode cX8_off 19 = .ok (.bipush 32, 2) := by decide +kernel
theorem dX8_off_21 : decode cX8_off 21 = .ok (.idiv, 1) := by decide +kernel
theorem dX8_off_22 : decode cX8_off 22 = .ok (.goto 4, 3) := by decide +kernel
theorem dX8_off_25 : decode cX8_off 25 = .ok (.iconst (-1), 1) := by decide +kernel
theorem dX8_off_26 : decode cX8_off 26 = .ok (.ireturn, 1) := by decide +kernel
theorem dX8_mow_0 : decode cX8_mow 0 = .ok (.aload_n 0, 1) := by decide +kernel
theorem dX8_mow_1 : decode cX8_mow 1 = .ok (.iload_n 1, 1) := by decide +kernel
theorem dX8_mow_2 : decode cX8_mow 2 = .ok (.invokevirtual 70, 3) := by decide +kernel
theorem dX8_mow_5 : decode cX8_mow 5 = .ok (.ifCond .eq 12, 3) := by decide +kernel
theorem dX8_mow_8 : decode cX8_mow 8 = .ok (.iload_n 2, 1) := by decide +kernel
theorem dX8_mow_9 : decode cX8_mow 9 = .ok (.bipush 26, 2) := by decide +kernel
theorem dX8_mow_11 : decode cX8_mow 11 = .ok (.invokestatic 51, 3) := by decide +kernel
theorem dX8_mow_14 : decode cX8_mow 14 = .ok (.ifCond .ne 5, 3) := by decide +kernel
theorem dX8_mow_17 : decode cX8_mow 17 = .ok (.iconst (-1), 1) := by decide +kernel
theorem dX8_mow_18 : decode cX8_mow 18 = .ok (.ireturn, 1) := by decide +kernel
theorem dX8_mow_19 : decode cX8_mow 19 = .ok (.aload_n 0, 1) := by decide +kernel
theorem dX8_mow_20 : decode cX8_mow 20 = .ok (.getfield 12, 3) := by decide +kernel
theorem dX8_mow_23 : decode cX8_mow 23 = .ok (.getfield 74, 3) := by decide +kernel
theorem dX8_mow_26 : decode cX8_mow 26 = .ok (.iload_n 1, 1) := by decide +kernel
theorem dX8_mow_27 : decode cX8_mow 27 = .ok (.aaload, 1) := by decide +kernel
theorem dX8_mow_28 : decode cX8_mow 28 = .ok (.getstatic 83, 3) := by decide +kernel
theorem dX8_mow_31 : decode cX8_mow 31 = .ok (.iload_n 2, 1) := by decide +kernel
theorem dX8_mow_32 : decode cX8_mow 32 = .ok (.iaload, 1) := by decide +kernel
theorem dX8_mow_33 : decode cX8_mow 33 = .ok (.invokevirtual 96, 3) := by decide +kernel
theorem dX8_mow_36 : decode cX8_mow 36 = .ok (.ifCond .eq 19, 3) := by decide +kernel
theorem dX8_mow_39 : decode cX8_mow 39 = .ok (.aload_n 0, 1) := by decide +kernel
theorem dX8_mow_40 : decode cX8_mow 40 = .ok (.getfield 12, 3) := by decide +kernel
theorem dX8_mow_43 : decode cX8_mow 43 = .ok (.iload_n 1, 1) := by decide +kernel
theorem dX8_mow_44 : decode cX8_mow 44 = .ok (.getstatic 83, 3) := by decide +kernel
theorem dX8_mow_47 : decode cX8_mow 47 = .ok (.iload_n 2, 1) := by decide +kernel
theorem dX8_mow_48 : decode cX8_mow 48 = .ok (.iaload, 1) := by decide +kernel
theorem dX8_mow_49 : decode cX8_mow 49 = .ok (.invokevirtual 99, 3) := by decide +kernel
theorem dX8_mow_52 : decode cX8_mow 52 = .ok (.goto 5, 3) := by decide +kernel
theorem dX8_mow_55 : decode cX8_mow 55 = .ok (.bipush (-2), 2) := by decide +kernel
theorem dX8_mow_57 : decode cX8_mow 57 = .ok (.ireturn, 1) := by decide +kernel
theorem dX8_cut_0 : decode cX8_cut 0 = .ok (.aload_n 0, 1) := by decide +kernel
theorem dX8_cut_1 : decode cX8_cut 1 = .ok (.iload_n 1, 1) := by decide +kernel
theorem dX8_cut_2 : decode cX8_cut 2 = .ok (.invokevirtual 70, 3) := by decide +kernel
theorem dX8_cut_5 : decode cX8_cut 5 = .ok (.ifCond .eq 26, 3) := by decide +kernel
theorem dX8_cut_8 : decode cX8_cut 8 = .ok (.aload_n 0, 1) := by decide +kernel
theorem dX8_cut_9 : decode cX8_cut 9 = .ok (.getfield 12, 3) := by decide +kernel
theorem dX8_cut_12 : decode cX8_cut 12 = .ok (.iload_n 1, 1) := by decide +kernel
theorem dX8_cut_13 : decode cX8_cut 13 = .ok (.aload_n 0, 1) := by decide +kernel
theorem dX8_cut_14 : decode cX8_cut 14 = .ok (.getfield 12, 3) := by decide +kernel
theorem dX8_cut_17 : decode cX8_cut 17 = .ok (.getfield 74, 3) := by decide +kernel
theorem dX8_cut_20 : decode cX8_cut 20 = .ok (.iload_n 1, 1) := by decide +kernel
theorem dX8_cut_21 : decode cX8_cut 21 = .ok (.aaload, 1) := by decide +kernel
theorem dX8_cut_22 : decode cX8_cut 22 = .ok (.invokevirtual 103, 3) := by decide +kernel
theorem dX8_cut_25 : decode cX8_cut 25 = .ok (.invokevirtual 99, 3) := by decide +kernel
theorem dX8_cut_28 : decode cX8_cut 28 = .ok (.goto 4, 3) := by decide +kernel
theorem dX8_cut_31 : decode cX8_cut 31 = .ok (.iconst (-1), 1) := by decide +kernel
theorem dX8_cut_32 : decode cX8_cut 32 = .ok (.ireturn, 1) := by decide +kernel
theorem dX8_fault_0 : decode cX8_fault 0 = .ok (.aload_n 0, 1) := by decide +kernel
theorem dX8_fault_1 : decode cX8_fault 1 = .ok (.iload_n 1, 1) := by decide +kernel
theorem dX8_fault_2 : decode cX8_fault 2 = .ok (.invokevirtual 70, 3) := by decide +kernel
theorem dX8_fault_5 : decode cX8_fault 5 = .ok (.ifCond .eq 20, 3) := by decide +kernel
theorem dX8_fault_8 : decode cX8_fault 8 = .ok (.iload_n 2, 1) := by decide +kernel
theorem dX8_fault_9 : decode cX8_fault 9 = .ok (.bipush 15, 2) := by decide +kernel
theorem dX8_fault_11 : decode cX8_fault 11 = .ok (.invokestatic 51, 3) := by decide +kernel
theorem dX8_fault_14 : decode cX8_fault 14 = .ok (.ifCond .eq 11, 3) := by decide +kernel
theorem dX8_fault_17 : decode cX8_fault 17 = .ok (.iload_n 3, 1) := by decide +kernel
theorem dX8_fault_18 : decode cX8_fault 18 = .ok (.iconst 2, 1) := by decide +kernel
theorem dX8_fault_19 : decode cX8_fault 19 = .ok (.invokestatic 51, 3) := by decide +kernel
theorem dX8_fault_22 : decode cX8_fault 22 = .ok (.ifCond .ne 5, 3) := by decide +kernel
theorem dX8_fault_25 : decode cX8_fault 25 = .ok (.iconst (-1), 1) := by decide +kernel
theorem dX8_fault_26 : decode cX8_fault 26 = .ok (.ireturn, 1) := by decide +kernel
theorem dX8_fault_27 : decode cX8_fault 27 = .ok (.aload_n 0, 1) := by decide +kernel
theorem dX8_fault_28 : decode cX8_fault 28 = .ok (.getfield 12, 3) := by decide +kernel
theorem dX8_fault_31 : decode cX8_fault 31 = .ok (.getfield 74, 3) := by decide +kernel
theorem dX8_fault_34 : decode cX8_fault 34 = .ok (.iload_n 1, 1) := by decide +kernel
theorem dX8_fault_35 : decode cX8_fault 35 = .ok (.aaload, 1) := by decide +kernel
theorem dX8_fault_36 : decode cX8_fault 36 = .ok (.getfield 78, 3) := by decide +kernel
theorem dX8_fault_39 : decode cX8_fault 39 = .ok (.astore 4, 2) := by decide +kernel
theorem dX8_fault_41 : decode cX8_fault 41 = .ok (.aload 4, 2) := by decide +kernel
theorem dX8_fault_43 : decode cX8_fault 43 = .ok (.iload_n 2, 1) := by decide +kernel
theorem dX8_fault_44 : decode cX8_fault 44 = .ok (.iaload, 1) := by decide +kernel
theorem dX8_fault_45 : decode cX8_fault 45 = .ok (.istore 5, 2) := by decide +kernel
theorem dX8_fault_47 : decode cX8_fault 47 = .ok (.aload 4, 2) := by decide +kernel
theorem dX8_fault_49 : decode cX8_fault 49 = .ok (.iload_n 2, 1) := by decide +kernel
theorem dX8_fault_50 : decode cX8_fault 50 = .ok (.iload_n 3, 1) := by decide +kernel
theorem dX8_fault_51 : decode cX8_fault 51 = .ok (.ifCond .ne 7, 3) := by decide +kernel
theorem dX8_fault_54 : decode cX8_fault 54 = .ok (.iconst 0, 1) := by decide +kernel
theorem dX8_fault_55 : decode cX8_fault 55 = .ok (.goto 5, 3) := by decide +kernel
theorem dX8_fault_58 : decode cX8_fault 58 = .ok (.bipush 9, 2) := by decide +kernel
theorem dX8_fault_60 : decode cX8_fault 60 = .ok (.iastore, 1) := by decide +kernel
theorem dX8_fault_61 : decode cX8_fault 61 = .ok (.iload 5, 2) := by decide +kernel
theorem dX8_fault_63 : decode cX8_fault 63 = .ok (.ireturn, 1) := by decide +kernel
theorem dX8_weeks_0 : decode cX8_weeks 0 = .ok (.iload_n 1, 1) := by decide +kernel
theorem dX8_weeks_1 : decode cX8_weeks 1 = .ok (.iconst 1, 1) := by decide +kernel
theorem dX8_weeks_2 : decode cX8_weeks 2 = .ok (.if_icmp .lt 20, 3) := by decide +kernel
theorem dX8_weeks_5 : decode cX8_weeks 5 = .ok (.iload_n 1, 1) := by decide +kernel
theorem dX8_weeks_6 : decode cX8_weeks 6 = .ok (.bipush 30, 2) := by decide +kernel
theorem dX8_weeks_8 : decode cX8_weeks 8 = .ok (.if_icmp .gt 14, 3) := by decide +kernel
theorem dX8_weeks_11 : decode cX8_weeks 11 = .ok (.aload_n 0, 1) := by decide +kernel
theorem dX8_weeks_12 : decode cX8_weeks 12 = .ok (.getfield 12, 3) := by decide +kernel
theorem dX8_weeks_15 : decode cX8_weeks 15 = .ok (.iload_n 1, 1) := by decide +kernel
theorem dX8_weeks_16 : decode cX8_weeks 16 = .ok (.invokevirtual 107, 3) := by decide +kernel
theorem dX8_weeks_19 : decode cX8_weeks 19 = .ok (.goto 4, 3) := by decide +kernel
theorem dX8_weeks_22 : decode cX8_weeks 22 = .ok (.iconst (-1), 1) := by decide +kernel
theorem dX8_weeks_23 : decode cX8_weeks 23 = .ok (.ireturn, 1) := by decide +kernel
theorem dX8_hay_0 : decode cX8_hay 0 = .ok (.iload_n 1, 1) := by decide +kernel
theorem dX8_hay_1 : decode cX8_hay 1 = .ok (.bipush 6, 2) := by decide +kernel
theorem dX8_hay_3 : decode cX8_hay 3 = .ok (.invokestatic 51, 3) := by decide +kernel
theorem dX8_hay_6 : decode cX8_hay 6 = .ok (.ifCond .eq 15, 3) := by decide +kernel
theorem dX8_hay_9 : decode cX8_hay 9 = .ok (.aload_n 0, 1) := by decide +kernel
theorem dX8_hay_10 : decode cX8_hay 10 = .ok (.getfield 12, 3) := by decide +kernel
theorem dX8_hay_13 : decode cX8_hay 13 = .ok (.getfield 110, 3) := by decide +kernel
theorem dX8_hay_16 : decode cX8_hay 16 = .ok (.iload_n 1, 1) := by decide +kernel
theorem dX8_hay_17 : decode cX8_hay 17 = .ok (.iaload, 1) := by decide +kernel
theorem dX8_hay_18 : decode cX8_hay 18 = .ok (.goto 4, 3) := by decide +kernel
theorem dX8_hay_21 : decode cX8_hay 21 = .ok (.iconst (-1), 1) := by decide +kernel
theorem dX8_hay_22 : decode cX8_hay 22 = .ok (.ireturn, 1) := by decide +kernel
theorem dX8_type_0 : decode cX8_type 0 = .ok (.iload_n 3, 1) := by decide +kernel
theorem dX8_type_1 : decode cX8_type 1 = .ok (.iconst 1, 1) := by decide +kernel
theorem dX8_type_2 : decode cX8_type 2 = .ok (.if_icmp .lt 21, 3) := by decide +kernel
theorem dX8_type_5 : decode cX8_type 5 = .ok (.iload_n 3, 1) := by decide +kernel
theorem dX8_type_6 : decode cX8_type 6 = .ok (.bipush 8, 2) := by decide +kernel
theorem dX8_type_8 : decode cX8_type 8 = .ok (.if_icmp .gt 15, 3) := by decide +kernel
theorem dX8_type_11 : decode cX8_type 11 = .ok (.aload_n 0, 1) := by decide +kernel
theorem dX8_type_12 : decode cX8_type 12 = .ok (.getfield 40, 3) := by decide +kernel
theorem dX8_type_15 : decode cX8_type 15 = .ok (.lload_n 1, 1) := by decide +kernel
theorem dX8_type_16 : decode cX8_type 16 = .ok (.iload_n 3, 1) := by decide +kernel
theorem dX8_type_17 : decode cX8_type 17 = .ok (.invokevirtual 113, 3) := by decide +kernel
theorem dX8_type_20 : decode cX8_type 20 = .ok (.goto 4, 3) := by decide +kernel
theorem dX8_type_23 : decode cX8_type 23 = .ok (.iconst (-1), 1) := by decide +kernel
theorem dX8_type_24 : decode cX8_type 24 = .ok (.ireturn, 1) := by decide +kernel
theorem dX8_strips_0 : decode cX8_strips 0 = .ok (.aload_n 0, 1) := by decide +kernel
theorem dX8_strips_1 : decode cX8_strips 1 = .ok (.getfield 40, 3) := by decide +kernel
theorem dX8_strips_4 : decode cX8_strips 4 = .ok (.invokevirtual 117, 3) := by decide +kernel
theorem dX8_strips_7 : decode cX8_strips 7 = .ok (.istore_n 1, 1) := by decide +kernel
theorem dX8_strips_8 : decode cX8_strips 8 = .ok (.aload_n 0, 1) := by decide +kernel
theorem dX8_strips_9 : decode cX8_strips 9 = .ok (.getfield 40, 3) := by decide +kernel
theorem dX8_strips_12 : decode cX8_strips 12 = .ok (.iconst 0, 1) := by decide +kernel
theorem dX8_strips_13 : decode cX8_strips 13 = .ok (.putfield 120, 3) := by decide +kernel
theorem dX8_strips_16 : decode cX8_strips 16 = .ok (.iload_n 1, 1) := by decide +kernel
theorem dX8_strips_17 : decode cX8_strips 17 = .ok (.ifCond .le 18, 3) := by decide +kernel
theorem dX8_strips_20 : decode cX8_strips 20 = .ok (.aload_n 0, 1) := by decide +kernel
theorem dX8_strips_21 : decode cX8_strips 21 = .ok (.getfield 12, 3) := by decide +kernel
theorem dX8_strips_24 : decode cX8_strips 24 = .ok (.aload_n 0, 1) := by decide +kernel
theorem dX8_strips_25 : decode cX8_strips 25 = .ok (.getfield 40, 3) := by decide +kernel
theorem dX8_strips_28 : decode cX8_strips 28 = .ok (.getfield 123, 3) := by decide +kernel
theorem dX8_strips_31 : decode cX8_strips 31 = .ok (.iload_n 1, 1) := by decide +kernel
theorem dX8_strips_32 : decode cX8_strips 32 = .ok (.invokevirtual 126, 3) := by decide +kernel
theorem dX8_strips_35 : decode cX8_strips 35 = .ok (.iload_n 1, 1) := by decide +kernel
theorem dX8_strips_36 : decode cX8_strips 36 = .ok (.ireturn, 1) := by decide +kernel
theorem dX8_words_0 : decode cX8_words 0 = .ok (.aload_n 0, 1) := by decide +kernel
theorem dX8_words_1 : decode cX8_words 1 = .ok (.getfield 40, 3) := by decide +kernel
theorem dX8_words_4 : decode cX8_words 4 = .ok (.invokevirtual 130, 3) := by decide +kernel
theorem dX8_words_7 : decode cX8_words 7 = .ok (.istore_n 1, 1) := by decide +kernel
theorem dX8_words_8 : decode cX8_words 8 = .ok (.aload_n 0, 1) := by decide +kernel
theorem dX8_words_9 : decode cX8_words 9 = .ok (.getfield 40, 3) := by decide +kernel
theorem dX8_words_12 : decode cX8_words 12 = .ok (.iconst 0, 1) := by decide +kernel
theorem dX8_words_13 : decode cX8_words 13 = .ok (.putfield 120, 3) := by decide +kernel
theorem dX8_words_16 : decode cX8_words 16 = .ok (.iload_n 1, 1) := by decide +kernel
theorem dX8_words_17 : decode cX8_words 17 = .ok (.bipush 10, 2) := by decide +kernel
theorem dX8_words_19 : decode cX8_words 19 = .ok (.aload_n 0, 1) := by decide +kernel
theorem dX8_words_20 : decode cX8_words 20 = .ok (.getfield 12, 3) := by decide +kernel
theorem dX8_words_23 : decode cX8_words 23 = .ok (.getfield 133, 3) := by decide +kernel
theorem dX8_words_26 : decode cX8_words 26 = .ok (.isub, 1) := by decide +kernel
theorem dX8_words_27 : decode cX8_words 27 = .ok (.if_icmp .le 6, 3) := by decide +kernel
theorem dX8_words_30 : decode cX8_words 30 = .ok (.bipush (-3), 2) := by decide +kernel
theorem dX8_words_32 : decode cX8_words 32 = .ok (.ireturn, 1) := by decide +kernel
theorem dX8_words_33 : decode cX8_words 33 = .ok (.iconst 0, 1) := by decide +kernel
theorem dX8_words_34 : decode cX8_words 34 = .ok (.istore_n 2, 1) := by decide +kernel
theorem dX8_words_35 : decode cX8_words 35 = .ok (.iload_n 2, 1) := by decide +kernel
theorem dX8_words_36 : decode cX8_words 36 = .ok (.iload_n 1, 1) := by decide +kernel
theorem dX8_words_37 : decode cX8_words 37 = .ok (.if_icmp .ge 25, 3) := by decide +kernel
theorem dX8_words_40 : decode cX8_words 40 = .ok (.aload_n 0, 1) := by decide +kernel
theorem dX8_words_41 : decode cX8_words 41 = .ok (.getfield 12, 3) := by decide +kernel
theorem dX8_words_44 : decode cX8_words 44 = .ok (.aload_n 0, 1) := by decide +kernel
theorem dX8_words_45 : decode cX8_words 45 = .ok (.getfield 40, 3) := by decide +kernel
theorem dX8_words_48 : decode cX8_words 48 = .ok (.getfield 136, 3) := by decide +kernel
theorem dX8_words_51 : decode cX8_words 51 = .ok (.iload_n 2, 1) := by decide +kernel
theorem dX8_words_52 : decode cX8_words 52 = .ok (.aaload, 1) := by decide +kernel
theorem dX8_words_53 : decode cX8_words 53 = .ok (.invokevirtual 140, 3) := by decide +kernel
theorem dX8_words_56 : decode cX8_words 56 = .ok (.iinc 2 1, 3) := by decide +kernel
theorem dX8_words_59 : decode cX8_words 59 = .ok (.goto (-24), 3) := by decide +kernel
theorem dX8_words_62 : decode cX8_words 62 = .ok (.iload_n 1, 1) := by decide +kernel
theorem dX8_words_63 : decode cX8_words 63 = .ok (.ireturn, 1) := by decide +kernel
theorem dX8_told_0 : decode cX8_told 0 = .ok (.aload_n 0, 1) := by decide +kernel
theorem dX8_told_1 : decode cX8_told 1 = .ok (.iload_n 1, 1) := by decide +kernel
theorem dX8_told_2 : decode cX8_told 2 = .ok (.invokevirtual 144, 3) := by decide +kernel
theorem dX8_told_5 : decode cX8_told 5 = .ok (.ifCond .eq 9, 3) := by decide +kernel
theorem dX8_told_8 : decode cX8_told 8 = .ok (.iload_n 2, 1) := by decide +kernel
theorem dX8_told_9 : decode cX8_told 9 = .ok (.bipush (-2), 2) := by decide +kernel
theorem dX8_told_11 : decode cX8_told 11 = .ok (.if_icmp .ge 5, 3) := by decide +kernel
theorem dX8_told_14 : decode cX8_told 14 = .ok (.iconst (-1), 1) := by decide +kernel
theorem dX8_told_15 : decode cX8_told 15 = .ok (.ireturn, 1) := by decide +kernel
theorem dX8_told_16 : decode cX8_told 16 = .ok (.aload_n 0, 1) := by decide +kernel
theorem dX8_told_17 : decode cX8_told 17 = .ok (.getfield 12, 3) := by decide +kernel
theorem dX8_told_20 : decode cX8_told 20 = .ok (.getfield 147, 3) := by decide +kernel
theorem dX8_told_23 : decode cX8_told 23 = .ok (.iload_n 1, 1) := by decide +kernel
theorem dX8_told_24 : decode cX8_told 24 = .ok (.aaload, 1) := by decide +kernel
theorem dX8_told_25 : decode cX8_told 25 = .ok (.astore_n 3, 1) := by decide +kernel
theorem dX8_told_26 : decode cX8_told 26 = .ok (.iload_n 2, 1) := by decide +kernel
theorem dX8_told_27 : decode cX8_told 27 = .ok (.bipush (-2), 2) := by decide +kernel
theorem dX8_told_29 : decode cX8_told 29 = .ok (.if_icmp .ne 8, 3) := by decide +kernel
theorem dX8_told_32 : decode cX8_told 32 = .ok (.aload_n 3, 1) := by decide +kernel
theorem dX8_told_33 : decode cX8_told 33 = .ok (.getfield 150, 3) := by decide +kernel
theorem dX8_told_36 : decode cX8_told 36 = .ok (.ireturn, 1) := by decide +kernel
theorem dX8_told_37 : decode cX8_told 37 = .ok (.iload_n 2, 1) := by decide +kernel
theorem dX8_told_38 : decode cX8_told 38 = .ok (.iconst (-1), 1) := by decide +kernel
theorem dX8_told_39 : decode cX8_told 39 = .ok (.if_icmp .ne 8, 3) := by decide +kernel
theorem dX8_told_42 : decode cX8_told 42 = .ok (.aload_n 3, 1) := by decide +kernel
theorem dX8_told_43 : decode cX8_told 43 = .ok (.getfield 155, 3) := by decide +kernel
theorem dX8_told_46 : decode cX8_told 46 = .ok (.ireturn, 1) := by decide +kernel
theorem dX8_told_47 : decode cX8_told 47 = .ok (.iload_n 2, 1) := by decide +kernel
theorem dX8_told_48 : decode cX8_told 48 = .ok (.aload_n 3, 1) := by decide +kernel
theorem dX8_told_49 : decode cX8_told 49 = .ok (.getfield 155, 3) := by decide +kernel
theorem dX8_told_52 : decode cX8_told 52 = .ok (.if_icmp .ge 12, 3) := by decide +kernel
theorem dX8_told_55 : decode cX8_told 55 = .ok (.aload_n 3, 1) := by decide +kernel
theorem dX8_told_56 : decode cX8_told 56 = .ok (.getfield 156, 3) := by decide +kernel
theorem dX8_told_59 : decode cX8_told 59 = .ok (.iload_n 2, 1) := by decide +kernel
theorem dX8_told_60 : decode cX8_told 60 = .ok (.iaload, 1) := by decide +kernel
theorem dX8_told_61 : decode cX8_told 61 = .ok (.goto 5, 3) := by decide +kernel
theorem dX8_told_64 : decode cX8_told 64 = .ok (.bipush (-4), 2) := by decide +kernel
theorem dX8_told_66 : decode cX8_told 66 = .ok (.ireturn, 1) := by decide +kernel
theorem dX8_pay_0 : decode cX8_pay 0 = .ok (.aload_n 0, 1) := by decide +kernel
theorem dX8_pay_1 : decode cX8_pay 1 = .ok (.iload_n 1, 1) := by decide +kernel
theorem dX8_pay_2 : decode cX8_pay 2 = .ok (.invokevirtual 144, 3) := by decide +kernel
theorem dX8_pay_5 : decode cX8_pay 5 = .ok (.ifCond .eq 13, 3) := by decide +kernel
theorem dX8_pay_8 : decode cX8_pay 8 = .ok (.iload_n 2, 1) := by decide +kernel
theorem dX8_pay_9 : decode cX8_pay 9 = .ok (.ifCond .lt 9, 3) := by decide +kernel
theorem dX8_pay_12 : decode cX8_pay 12 = .ok (.iload_n 2, 1) := by decide +kernel
theorem dX8_pay_13 : decode cX8_pay 13 = .ok (.bipush 99, 2) := by decide +kernel
theorem dX8_pay_15 : decode cX8_pay 15 = .ok (.if_icmp .le 5, 3) := by decide +kernel
theorem dX8_pay_18 : decode cX8_pay 18 = .ok (.iconst (-1), 1) := by decide +kernel
theorem dX8_pay_19 : decode cX8_pay 19 = .ok (.ireturn, 1) := by decide +kernel
theorem dX8_pay_20 : decode cX8_pay 20 = .ok (.aload_n 0, 1) := by decide +kernel
theorem dX8_pay_21 : decode cX8_pay 21 = .ok (.getfield 12, 3) := by decide +kernel
theorem dX8_pay_24 : decode cX8_pay 24 = .ok (.getfield 147, 3) := by decide +kernel
theorem dX8_pay_27 : decode cX8_pay 27 = .ok (.iload_n 1, 1) := by decide +kernel
theorem dX8_pay_28 : decode cX8_pay 28 = .ok (.aaload, 1) := by decide +kernel
theorem dX8_pay_29 : decode cX8_pay 29 = .ok (.getfield 150, 3) := by decide +kernel
theorem dX8_pay_32 : decode cX8_pay 32 = .ok (.istore_n 3, 1) := by decide +kernel
theorem dX8_pay_33 : decode cX8_pay 33 = .ok (.aload_n 0, 1) := by decide +kernel
theorem dX8_pay_34 : decode cX8_pay 34 = .ok (.getfield 12, 3) := by decide +kernel
theorem dX8_pay_37 : decode cX8_pay 37 = .ok (.getfield 147, 3) := by decide +kernel
theorem dX8_pay_40 : decode cX8_pay 40 = .ok (.iload_n 1, 1) := by decide +kernel
theorem dX8_pay_41 : decode cX8_pay 41 = .ok (.aaload, 1) := by decide +kernel
theorem dX8_pay_42 : decode cX8_pay 42 = .ok (.iload_n 2, 1) := by decide +kernel
theorem dX8_pay_43 : decode cX8_pay 43 = .ok (.putfield 150, 3) := by decide +kernel
theorem dX8_pay_46 : decode cX8_pay 46 = .ok (.iload_n 3, 1) := by decide +kernel
theorem dX8_pay_47 : decode cX8_pay 47 = .ok (.ireturn, 1) := by decide +kernel
theorem dX8_feud_0 : decode cX8_feud 0 = .ok (.iload_n 1, 1) := by decide +kernel
theorem dX8_feud_1 : decode cX8_feud 1 = .ok (.bipush 6, 2) := by decide +kernel
theorem dX8_feud_3 : decode cX8_feud 3 = .ok (.invokestatic 51, 3) := by decide +kernel
theorem dX8_feud_6 : decode cX8_feud 6 = .ok (.ifCond .eq 17, 3) := by decide +kernel
theorem dX8_feud_9 : decode cX8_feud 9 = .ok (.iload_n 2, 1) := by decide +kernel
theorem dX8_feud_10 : decode cX8_feud 10 = .ok (.bipush 6, 2) := by decide +kernel
theorem dX8_feud_12 : decode cX8_feud 12 = .ok (.invokestatic 51, 3) := by decide +kernel
theorem dX8_feud_15 : decode cX8_feud 15 = .ok (.ifCond .eq 8, 3) := by decide +kernel
theorem dX8_feud_18 : decode cX8_feud 18 = .ok (.iload_n 1, 1) := by decide +kernel
theorem dX8_feud_19 : decode cX8_feud 19 = .ok (.iload_n 2, 1) := by decide +kernel
theorem dX8_feud_20 : decode cX8_feud 20 = .ok (.if_icmp .ne 5, 3) := by decide +kernel
theorem dX8_feud_23 : decode cX8_feud 23 = .ok (.iconst (-1), 1) := by decide +kernel
theorem dX8_feud_24 : decode cX8_feud 24 = .ok (.ireturn, 1) := by decide +kernel
theorem dX8_feud_25 : decode cX8_feud 25 = .ok (.aload_n 0, 1) := by decide +kernel
theorem dX8_feud_26 : decode cX8_feud 26 = .ok (.getfield 12, 3) := by decide +kernel
theorem dX8_feud_29 : decode cX8_feud 29 = .ok (.getfield 159, 3) := by decide +kernel
theorem dX8_feud_32 : decode cX8_feud 32 = .ok (.iload_n 1, 1) := by decide +kernel
theorem dX8_feud_33 : decode cX8_feud 33 = .ok (.iaload, 1) := by decide +kernel
theorem dX8_feud_34 : decode cX8_feud 34 = .ok (.iload_n 2, 1) := by decide +kernel
theorem dX8_feud_35 : decode cX8_feud 35 = .ok (.ishr, 1) := by decide +kernel
theorem dX8_feud_36 : decode cX8_feud 36 = .ok (.iconst 1, 1) := by decide +kernel
theorem dX8_feud_37 : decode cX8_feud 37 = .ok (.iand, 1) := by decide +kernel
theorem dX8_feud_38 : decode cX8_feud 38 = .ok (.istore 4, 2) := by decide +kernel
theorem dX8_feud_40 : decode cX8_feud 40 = .ok (.aload_n 0, 1) := by decide +kernel
theorem dX8_feud_41 : decode cX8_feud 41 = .ok (.getfield 12, 3) := by decide +kernel
theorem dX8_feud_44 : decode cX8_feud 44 = .ok (.iload_n 1, 1) := by decide +kernel
theorem dX8_feud_45 : decode cX8_feud 45 = .ok (.iload_n 2, 1) := by decide +kernel
theorem dX8_feud_46 : decode cX8_feud 46 = .ok (.iload_n 3, 1) := by decide +kernel
theorem dX8_feud_47 : decode cX8_feud 47 = .ok (.invokevirtual 162, 3) := by decide +kernel
theorem dX8_feud_50 : decode cX8_feud 50 = .ok (.aload_n 0, 1) := by decide +kernel
theorem dX8_feud_51 : decode cX8_feud 51 = .ok (.getfield 12, 3) := by decide +kernel
theorem dX8_feud_54 : decode cX8_feud 54 = .ok (.iload_n 2, 1) := by decide +kernel
theorem dX8_feud_55 : decode cX8_feud 55 = .ok (.iload_n 1, 1) := by decide +kernel
theorem dX8_feud_56 : decode cX8_feud 56 = .ok (.iload_n 3, 1) := by decide +kernel
theorem dX8_feud_57 : decode cX8_feud 57 = .ok (.invokevirtual 162, 3) := by decide +kernel
theorem dX8_feud_60 : decode cX8_feud 60 = .ok (.iload 4, 2) := by decide +kernel
theorem dX8_feud_62 : decode cX8_feud 62 = .ok (.ireturn, 1) := by decide +kernel
theorem dX8_count_0 : decode cX8_count 0 = .ok (.iload_n 1, 1) := by decide +kernel
theorem dX8_count_1 : decode cX8_count 1 = .ok (.tableswitch 63 0 3 #[31, 39, 47, 55], 31) := by decide +kernel
theorem dX8_count_32 : decode cX8_count 32 = .ok (.aload_n 0, 1) := by decide +kernel
theorem dX8_count_33 : decode cX8_count 33 = .ok (.getfield 12, 3) := by decide +kernel
theorem dX8_count_36 : decode cX8_count 36 = .ok (.getfield 55, 3) := by decide +kernel
theorem dX8_count_39 : decode cX8_count 39 = .ok (.ireturn, 1) := by decide +kernel
theorem dX8_count_40 : decode cX8_count 40 = .ok (.aload_n 0, 1) := by decide +kernel
theorem dX8_count_41 : decode cX8_count 41 = .ok (.getfield 12, 3) := by decide +kernel
theorem dX8_count_44 : decode cX8_count 44 = .ok (.getfield 133, 3) := by decide +kernel
theorem dX8_count_47 : decode cX8_count 47 = .ok (.ireturn, 1) := by decide +kernel
theorem dX8_count_48 : decode cX8_count 48 = .ok (.aload_n 0, 1) := by decide +kernel
theorem dX8_count_49 : decode cX8_count 49 = .ok (.getfield 12, 3) := by decide +kernel
theorem dX8_count_52 : decode cX8_count 52 = .ok (.invokevirtual 166, 3) := by decide +kernel
theorem dX8_count_55 : decode cX8_count 55 = .ok (.ireturn, 1) := by decide +kernel
theorem dX8_count_56 : decode cX8_count 56 = .ok (.aload_n 0, 1) := by decide +kernel
theorem dX8_count_57 : decode cX8_count 57 = .ok (.getfield 12, 3) := by decide +kernel
theorem dX8_count_60 : decode cX8_count 60 = .ok (.invokevirtual 169, 3) := by decide +kernel
theorem dX8_count_63 : decode cX8_count 63 = .ok (.ireturn, 1) := by decide +kernel
theorem dX8_count_64 : decode cX8_count 64 = .ok (.iconst (-1), 1) := by decide +kernel
theorem dX8_count_65 : decode cX8_count 65 = .ok (.ireturn, 1) := by decide +kernel
theorem dX8_written_0 : decode cX8_written 0 = .ok (.aload_n 0, 1) := by decide +kernel
theorem dX8_written_1 : decode cX8_written 1 = .ok (.iload_n 1, 1) := by decide +kernel
theorem dX8_written_2 : decode cX8_written 2 = .ok (.invokevirtual 144, 3) := by decide +kernel
theorem dX8_written_5 : decode cX8_written 5 = .ok (.ifCond .eq 11, 3) := by decide +kernel
theorem dX8_written_8 : decode cX8_written 8 = .ok (.aload_n 0, 1) := by decide +kernel
theorem dX8_written_9 : decode cX8_written 9 = .ok (.iload_n 2, 1) := by decide +kernel
theorem dX8_written_10 : decode cX8_written 10 = .ok (.invokevirtual 70, 3) := by decide +kernel
theorem dX8_written_13 : decode cX8_written 13 = .ok (.ifCond .ne 5, 3) := by decide +kernel
theorem dX8_written_16 : decode cX8_written 16 = .ok (.iconst (-1), 1) := by decide +kernel
theorem dX8_written_17 : decode cX8_written 17 = .ok (.ireturn, 1) := by decide +kernel
theorem dX8_written_18 : decode cX8_written 18 = .ok (.aload_n 0, 1) := by decide +kernel
theorem dX8_written_19 : decode cX8_written 19 = .ok (.getfield 12, 3) := by decide +kernel
theorem dX8_written_22 : decode cX8_written 22 = .ok (.aload_n 0, 1) := by decide +kernel
theorem dX8_written_23 : decode cX8_written 23 = .ok (.getfield 12, 3) := by decide +kernel
theorem dX8_written_26 : decode cX8_written 26 = .ok (.getfield 147, 3) := by decide +kernel
theorem dX8_written_29 : decode cX8_written 29 = .ok (.iload_n 1, 1) := by decide +kernel
theorem dX8_written_30 : decode cX8_written 30 = .ok (.aaload, 1) := by decide +kernel
theorem dX8_written_31 : decode cX8_written 31 = .ok (.iload_n 2, 1) := by decide +kernel
theorem dX8_written_32 : decode cX8_written 32 = .ok (.iconst 0, 1) := by decide +kernel
theorem dX8_written_33 : decode cX8_written 33 = .ok (.invokevirtual 172, 3) := by decide +kernel
theorem dX8_written_36 : decode cX8_written 36 = .ok (.ifCond .eq 7, 3) := by decide +kernel
theorem dX8_written_39 : decode cX8_written 39 = .ok (.iconst 1, 1) := by decide +kernel
theorem dX8_written_40 : decode cX8_written 40 = .ok (.goto 4, 3) := by decide +kernel
theorem dX8_written_43 : decode cX8_written 43 = .ok (.iconst 0, 1) := by decide +kernel
theorem dX8_written_44 : decode cX8_written 44 = .ok (.ireturn, 1) := by decide +kernel
theorem dX8_read_0 : decode cX8_read 0 = .ok (.iload_n 1, 1) := by decide +kernel
theorem dX8_read_1 : decode cX8_read 1 = .ok (.invokestatic 176, 3) := by decide +kernel
theorem dX8_read_4 : decode cX8_read 4 = .ok (.ifCond .ne 5, 3) := by decide +kernel
theorem dX8_read_7 : decode cX8_read 7 = .ok (.iconst (-1), 1) := by decide +kernel
theorem dX8_read_8 : decode cX8_read 8 = .ok (.ireturn, 1) := by decide +kernel
theorem dX8_read_9 : decode cX8_read 9 = .ok (.aload_n 0, 1) := by decide +kernel
theorem dX8_read_10 : decode cX8_read 10 = .ok (.getfield 26, 3) := by decide +kernel
theorem dX8_read_13 : decode cX8_read 13 = .ok (.aload_n 0, 1) := by decide +kernel
theorem dX8_read_14 : decode cX8_read 14 = .ok (.getfield 12, 3) := by decide +kernel
theorem dX8_read_17 : decode cX8_read 17 = .ok (.invokevirtual 179, 3) := by decide +kernel
theorem dX8_read_20 : decode cX8_read 20 = .ok (.aload_n 0, 1) := by decide +kernel
theorem dX8_read_21 : decode cX8_read 21 = .ok (.getfield 26, 3) := by decide +kernel
theorem dX8_read_24 : decode cX8_read 24 = .ok (.aload_n 0, 1) := by decide +kernel
theorem dX8_read_25 : decode cX8_read 25 = .ok (.getfield 12, 3) := by decide +kernel
theorem dX8_read_28 : decode cX8_read 28 = .ok (.invokevirtual 183, 3) := by decide +kernel
theorem dX8_read_31 : decode cX8_read 31 = .ok (.aload_n 0, 1) := by decide +kernel
theorem dX8_read_32 : decode cX8_read 32 = .ok (.getfield 26, 3) := by decide +kernel
theorem dX8_read_35 : decode cX8_read 35 = .ok (.iload_n 1, 1) := by decide +kernel
theorem dX8_read_36 : decode cX8_read 36 = .ok (.invokevirtual 186, 3) := by decide +kernel
theorem dX8_read_39 : decode cX8_read 39 = .ok (.ireturn, 1) := by decide +kernel
theorem dX8_nearest_0 : decode cX8_nearest 0 = .ok (.aload_n 0, 1) := by decide +kernel
theorem dX8_nearest_1 : decode cX8_nearest 1 = .ok (.iload_n 1, 1) := by decide +kernel
theorem dX8_nearest_2 : decode cX8_nearest 2 = .ok (.invokevirtual 70, 3) := by decide +kernel
theorem dX8_nearest_5 : decode cX8_nearest 5 = .ok (.ifCond .eq 11, 3) := by decide +kernel
theorem dX8_nearest_8 : decode cX8_nearest 8 = .ok (.iload_n 2, 1) := by decide +kernel
theorem dX8_nearest_9 : decode cX8_nearest 9 = .ok (.iconst 2, 1) := by decide +kernel
theorem dX8_nearest_10 : decode cX8_nearest 10 = .ok (.invokestatic 51, 3) := by decide +kernel
theorem dX8_nearest_13 : decode cX8_nearest 13 = .ok (.ifCond .ne 5, 3) := by decide +kernel
theorem dX8_nearest_16 : decode cX8_nearest 16 = .ok (.iconst (-1), 1) := by decide +kernel
theorem dX8_nearest_17 : decode cX8_nearest 17 = .ok (.ireturn, 1) := by decide +kernel
theorem dX8_nearest_18 : decode cX8_nearest 18 = .ok (.bipush (-4), 2) := by decide +kernel
theorem dX8_nearest_20 : decode cX8_nearest 20 = .ok (.istore_n 3, 1) := by decide +kernel
theorem dX8_nearest_21 : decode cX8_nearest 21 = .ok (.bipush (-4), 2) := by decide +kernel
theorem dX8_nearest_23 : decode cX8_nearest 23 = .ok (.istore 4, 2) := by decide +kernel
theorem dX8_nearest_25 : decode cX8_nearest 25 = .ok (.iconst 0, 1) := by decide +kernel
theorem dX8_nearest_26 : decode cX8_nearest 26 = .ok (.istore 5, 2) := by decide +kernel
theorem dX8_nearest_28 : decode cX8_nearest 28 = .ok (.iload 5, 2) := by decide +kernel
theorem dX8_nearest_30 : decode cX8_nearest 30 = .ok (.aload_n 0, 1) := by decide +kernel
theorem dX8_nearest_31 : decode cX8_nearest 31 = .ok (.getfield 12, 3) := by decide +kernel
theorem dX8_nearest_34 : decode cX8_nearest 34 = .ok (.getfield 133, 3) := by decide +kernel
theorem dX8_nearest_37 : decode cX8_nearest 37 = .ok (.if_icmp .ge 70, 3) := by decide +kernel
theorem dX8_nearest_40 : decode cX8_nearest 40 = .ok (.aload_n 0, 1) := by decide +kernel
theorem dX8_nearest_41 : decode cX8_nearest 41 = .ok (.getfield 12, 3) := by decide +kernel
theorem dX8_nearest_44 : decode cX8_nearest 44 = .ok (.aload_n 0, 1) := by decide +kernel
theorem dX8_nearest_45 : decode cX8_nearest 45 = .ok (.getfield 12, 3) := by decide +kernel
theorem dX8_nearest_48 : decode cX8_nearest 48 = .ok (.getfield 147, 3) := by decide +kernel
theorem dX8_nearest_51 : decode cX8_nearest 51 = .ok (.iload 5, 2) := by decide +kernel
theorem dX8_nearest_53 : decode cX8_nearest 53 = .ok (.aaload, 1) := by decide +kernel
theorem dX8_nearest_54 : decode cX8_nearest 54 = .ok (.iload_n 1, 1) := by decide +kernel
theorem dX8_nearest_55 : decode cX8_nearest 55 = .ok (.invokevirtual 189, 3) := by decide +kernel
theorem dX8_nearest_58 : decode cX8_nearest 58 = .ok (.ifCond .eq 43, 3) := by decide +kernel
theorem dX8_nearest_61 : decode cX8_nearest 61 = .ok (.aload_n 0, 1) := by decide +kernel
theorem dX8_nearest_62 : decode cX8_nearest 62 = .ok (.getfield 12, 3) := by decide +kernel
theorem dX8_nearest_65 : decode cX8_nearest 65 = .ok (.aload_n 0, 1) := by decide +kernel
theorem dX8_nearest_66 : decode cX8_nearest 66 = .ok (.getfield 12, 3) := by decide +kernel
theorem dX8_nearest_69 : decode cX8_nearest 69 = .ok (.getfield 147, 3) := by decide +kernel
theorem dX8_nearest_72 : decode cX8_nearest 72 = .ok (.iload 5, 2) := by decide +kernel
theorem dX8_nearest_74 : decode cX8_nearest 74 = .ok (.aaload, 1) := by decide +kernel
theorem dX8_nearest_75 : decode cX8_nearest 75 = .ok (.iload_n 1, 1) := by decide +kernel
theorem dX8_nearest_76 : decode cX8_nearest 76 = .ok (.invokevirtual 193, 3) := by decide +kernel
theorem dX8_nearest_79 : decode cX8_nearest 79 = .ok (.istore 6, 2) := by decide +kernel
theorem dX8_nearest_81 : decode cX8_nearest 81 = .ok (.iload_n 3, 1) := by decide +kernel
theorem dX8_nearest_82 : decode cX8_nearest 82 = .ok (.bipush (-4), 2) := by decide +kernel
theorem dX8_nearest_84 : decode cX8_nearest 84 = .ok (.if_icmp .eq 10, 3) := by decide +kernel
theorem dX8_nearest_87 : decode cX8_nearest 87 = .ok (.iload 6, 2) := by decide +kernel
theorem dX8_nearest_89 : decode cX8_nearest 89 = .ok (.iload 4, 2) := by decide +kernel
theorem dX8_nearest_91 : decode cX8_nearest 91 = .ok (.if_icmp .ge 10, 3) := by decide +kernel
theorem dX8_nearest_94 : decode cX8_nearest 94 = .ok (.iload 5, 2) := by decide +kernel
theorem dX8_nearest_96 : decode cX8_nearest 96 = .ok (.istore_n 3, 1) := by decide +kernel
theorem dX8_nearest_97 : decode cX8_nearest 97 = .ok (.iload 6, 2) := by decide +kernel
theorem dX8_nearest_99 : decode cX8_nearest 99 = .ok (.istore 4, 2) := by decide +kernel
theorem dX8_nearest_101 : decode cX8_nearest 101 = .ok (.iinc 5 1, 3) := by decide +kernel
theorem dX8_nearest_104 : decode cX8_nearest 104 = .ok (.goto (-76), 3) := by decide +kernel
theorem dX8_nearest_107 : decode cX8_nearest 107 = .ok (.iload_n 2, 1) := by decide +kernel
theorem dX8_nearest_108 : decode cX8_nearest 108 = .ok (.ifCond .ne 7, 3) := by decide +kernel
theorem dX8_nearest_111 : decode cX8_nearest 111 = .ok (.iload_n 3, 1) := by decide +kernel
theorem dX8_nearest_112 : decode cX8_nearest 112 = .ok (.goto 5, 3) := by decide +kernel
theorem dX8_nearest_115 : decode cX8_nearest 115 = .ok (.iload 4, 2) := by decide +kernel
theorem dX8_nearest_117 : decode cX8_nearest 117 = .ok (.ireturn, 1) := by decide +kernel
theorem dX8_may_0 : decode cX8_may 0 = .ok (.aload_n 0, 1) := by decide +kernel
theorem dX8_may_1 : decode cX8_may 1 = .ok (.iload_n 1, 1) := by decide +kernel
theorem dX8_may_2 : decode cX8_may 2 = .ok (.invokevirtual 144, 3) := by decide +kernel
theorem dX8_may_5 : decode cX8_may 5 = .ok (.ifCond .eq 11, 3) := by decide +kernel
theorem dX8_may_8 : decode cX8_may 8 = .ok (.aload_n 0, 1) := by decide +kernel
theorem dX8_may_9 : decode cX8_may 9 = .ok (.iload_n 2, 1) := by decide +kernel
theorem dX8_may_10 : decode cX8_may 10 = .ok (.invokevirtual 70, 3) := by decide +kernel
theorem dX8_may_13 : decode cX8_may 13 = .ok (.ifCond .ne 5, 3) := by decide +kernel
theorem dX8_may_16 : decode cX8_may 16 = .ok (.iconst (-1), 1) := by decide +kernel
theorem dX8_may_17 : decode cX8_may 17 = .ok (.ireturn, 1) := by decide +kernel
theorem dX8_may_18 : decode cX8_may 18 = .ok (.aload_n 0, 1) := by decide +kernel
theorem dX8_may_19 : decode cX8_may 19 = .ok (.getfield 12, 3) := by decide +kernel
theorem dX8_may_22 : decode cX8_may 22 = .ok (.aload_n 0, 1) := by decide +kernel
theorem dX8_may_23 : decode cX8_may 23 = .ok (.getfield 12, 3) := by decide +kernel
theorem dX8_may_26 : decode cX8_may 26 = .ok (.getfield 147, 3) := by decide +kernel
theorem dX8_may_29 : decode cX8_may 29 = .ok (.iload_n 1, 1) := by decide +kernel
theorem dX8_may_30 : decode cX8_may 30 = .ok (.aaload, 1) := by decide +kernel
theorem dX8_may_31 : decode cX8_may 31 = .ok (.iload_n 2, 1) := by decide +kernel
theorem dX8_may_32 : decode cX8_may 32 = .ok (.invokevirtual 197, 3) := by decide +kernel
theorem dX8_may_35 : decode cX8_may 35 = .ok (.ifCond .eq 7, 3) := by decide +kernel
theorem dX8_may_38 : decode cX8_may 38 = .ok (.iconst 1, 1) := by decide +kernel
theorem dX8_may_39 : decode cX8_may 39 = .ok (.goto 4, 3) := by decide +kernel
theorem dX8_may_42 : decode cX8_may 42 = .ok (.iconst 0, 1) := by decide +kernel
theorem dX8_may_43 : decode cX8_may 43 = .ok (.ireturn, 1) := by decide +kernel
theorem dX8_lost_0 : decode cX8_lost 0 = .ok (.aload_n 0, 1) := by decide +kernel
theorem dX8_lost_1 : decode cX8_lost 1 = .ok (.iload_n 1, 1) := by decide +kernel
theorem dX8_lost_2 : decode cX8_lost 2 = .ok (.invokevirtual 144, 3) := by decide +kernel
theorem dX8_lost_5 : decode cX8_lost 5 = .ok (.ifCond .eq 11, 3) := by decide +kernel
theorem dX8_lost_8 : decode cX8_lost 8 = .ok (.aload_n 0, 1) := by decide +kernel
theorem dX8_lost_9 : decode cX8_lost 9 = .ok (.iload_n 2, 1) := by decide +kernel
theorem dX8_lost_10 : decode cX8_lost 10 = .ok (.invokevirtual 70, 3) := by decide +kernel
theorem dX8_lost_13 : decode cX8_lost 13 = .ok (.ifCond .ne 5, 3) := by decide +kernel
theorem dX8_lost_16 : decode cX8_lost 16 = .ok (.iconst (-1), 1) := by decide +kernel
theorem dX8_lost_17 : decode cX8_lost 17 = .ok (.ireturn, 1) := by decide +kernel
theorem dX8_lost_18 : decode cX8_lost 18 = .ok (.aload_n 0, 1) := by decide +kernel
theorem dX8_lost_19 : decode cX8_lost 19 = .ok (.getfield 12, 3) := by decide +kernel
theorem dX8_lost_22 : decode cX8_lost 22 = .ok (.aload_n 0, 1) := by decide +kernel
theorem dX8_lost_23 : decode cX8_lost 23 = .ok (.getfield 12, 3) := by decide +kernel
theorem dX8_lost_26 : decode cX8_lost 26 = .ok (.getfield 147, 3) := by decide +kernel
theorem dX8_lost_29 : decode cX8_lost 29 = .ok (.iload_n 1, 1) := by decide +kernel
theorem dX8_lost_30 : decode cX8_lost 30 = .ok (.aaload, 1) := by decide +kernel
theorem dX8_lost_31 : decode cX8_lost 31 = .ok (.iload_n 2, 1) := by decide +kernel
theorem dX8_lost_32 : decode cX8_lost 32 = .ok (.invokevirtual 189, 3) := by decide +kernel
theorem dX8_lost_35 : decode cX8_lost 35 = .ok (.ifCond .eq 23, 3) := by decide +kernel
theorem dX8_lost_38 : decode cX8_lost 38 = .ok (.aload_n 0, 1) := by decide +kernel
theorem dX8_lost_39 : decode cX8_lost 39 = .ok (.getfield 12, 3) := by decide +kernel
theorem dX8_lost_42 : decode cX8_lost 42 = .ok (.aload_n 0, 1) := by decide +kernel
theorem dX8_lost_43 : decode cX8_lost 43 = .ok (.getfield 12, 3) := by decide +kernel
theorem dX8_lost_46 : decode cX8_lost 46 = .ok (.getfield 147, 3) := by decide +kernel
theorem dX8_lost_49 : decode cX8_lost 49 = .ok (.iload_n 1, 1) := by decide +kernel
theorem dX8_lost_50 : decode cX8_lost 50 = .ok (.aaload, 1) := by decide +kernel
theorem dX8_lost_51 : decode cX8_lost 51 = .ok (.iload_n 2, 1) := by decide +kernel
theorem dX8_lost_52 : decode cX8_lost 52 = .ok (.invokevirtual 200, 3) := by decide +kernel
theorem dX8_lost_55 : decode cX8_lost 55 = .ok (.goto 5, 3) := by decide +kernel
theorem dX8_lost_58 : decode cX8_lost 58 = .ok (.bipush (-2), 2) := by decide +kernel
theorem dX8_lost_60 : decode cX8_lost 60 = .ok (.ireturn, 1) := by decide +kernel
theorem dX8_plan_0 : decode cX8_plan 0 = .ok (.iload_n 1, 1) := by decide +kernel
theorem dX8_plan_1 : decode cX8_plan 1 = .ok (.invokestatic 176, 3) := by decide +kernel
theorem dX8_plan_4 : decode cX8_plan 4 = .ok (.ifCond .ne 5, 3) := by decide +kernel
theorem dX8_plan_7 : decode cX8_plan 7 = .ok (.iconst (-1), 1) := by decide +kernel
theorem dX8_plan_8 : decode cX8_plan 8 = .ok (.ireturn, 1) := by decide +kernel
theorem dX8_plan_9 : decode cX8_plan 9 = .ok (.aload_n 0, 1) := by decide +kernel
theorem dX8_plan_10 : decode cX8_plan 10 = .ok (.getfield 26, 3) := by decide +kernel
theorem dX8_plan_13 : decode cX8_plan 13 = .ok (.aload_n 0, 1) := by decide +kernel
theorem dX8_plan_14 : decode cX8_plan 14 = .ok (.getfield 12, 3) := by decide +kernel
theorem dX8_plan_17 : decode cX8_plan 17 = .ok (.invokevirtual 203, 3) := by decide +kernel
theorem dX8_plan_20 : decode cX8_plan 20 = .ok (.aload_n 0, 1) := by decide +kernel
theorem dX8_plan_21 : decode cX8_plan 21 = .ok (.getfield 26, 3) := by decide +kernel
theorem dX8_plan_24 : decode cX8_plan 24 = .ok (.aload_n 0, 1) := by decide +kernel
theorem dX8_plan_25 : decode cX8_plan 25 = .ok (.getfield 12, 3) := by decide +kernel
theorem dX8_plan_28 : decode cX8_plan 28 = .ok (.invokevirtual 183, 3) := by decide +kernel
theorem dX8_plan_31 : decode cX8_plan 31 = .ok (.aload_n 0, 1) := by decide +kernel
theorem dX8_plan_32 : decode cX8_plan 32 = .ok (.getfield 26, 3) := by decide +kernel
theorem dX8_plan_35 : decode cX8_plan 35 = .ok (.iload_n 1, 1) := by decide +kernel
theorem dX8_plan_36 : decode cX8_plan 36 = .ok (.invokevirtual 186, 3) := by decide +kernel
theorem dX8_plan_39 : decode cX8_plan 39 = .ok (.ireturn, 1) := by decide +kernel
theorem dX8_write_0 : decode cX8_write 0 = .ok (.aload_n 0, 1) := by decide +kernel
theorem dX8_write_1 : decode cX8_write 1 = .ok (.iload_n 1, 1) := by decide +kernel
theorem dX8_write_2 : decode cX8_write 2 = .ok (.invokevirtual 144, 3) := by decide +kernel
theorem dX8_write_5 : decode cX8_write 5 = .ok (.ifCond .eq 11, 3) := by decide +kernel
theorem dX8_write_8 : decode cX8_write 8 = .ok (.aload_n 0, 1) := by decide +kernel
theorem dX8_write_9 : decode cX8_write 9 = .ok (.iload_n 2, 1) := by decide +kernel
theorem dX8_write_10 : decode cX8_write 10 = .ok (.invokevirtual 70, 3) := by decide +kernel
theorem dX8_write_13 : decode cX8_write 13 = .ok (.ifCond .ne 5, 3) := by decide +kernel
theorem dX8_write_16 : decode cX8_write 16 = .ok (.iconst (-1), 1) := by decide +kernel
theorem dX8_write_17 : decode cX8_write 17 = .ok (.ireturn, 1) := by decide +kernel
theorem dX8_write_18 : decode cX8_write 18 = .ok (.aload_n 0, 1) := by decide +kernel
theorem dX8_write_19 : decode cX8_write 19 = .ok (.getfield 12, 3) := by decide +kernel
theorem dX8_write_22 : decode cX8_write 22 = .ok (.getfield 147, 3) := by decide +kernel
theorem dX8_write_25 : decode cX8_write 25 = .ok (.iload_n 1, 1) := by decide +kernel
theorem dX8_write_26 : decode cX8_write 26 = .ok (.aaload, 1) := by decide +kernel
theorem dX8_write_27 : decode cX8_write 27 = .ok (.astore_n 3, 1) := by decide +kernel
theorem dX8_write_28 : decode cX8_write 28 = .ok (.aload_n 0, 1) := by decide +kernel
theorem dX8_write_29 : decode cX8_write 29 = .ok (.getfield 12, 3) := by decide +kernel
theorem dX8_write_32 : decode cX8_write 32 = .ok (.aload_n 3, 1) := by decide +kernel
theorem dX8_write_33 : decode cX8_write 33 = .ok (.iload_n 2, 1) := by decide +kernel
theorem dX8_write_34 : decode cX8_write 34 = .ok (.invokevirtual 197, 3) := by decide +kernel
theorem dX8_write_37 : decode cX8_write 37 = .ok (.ifCond .ne 6, 3) := by decide +kernel
theorem dX8_write_40 : decode cX8_write 40 = .ok (.bipush (-2), 2) := by decide +kernel
theorem dX8_write_42 : decode cX8_write 42 = .ok (.ireturn, 1) := by decide +kernel
theorem dX8_write_43 : decode cX8_write 43 = .ok (.iconst 0, 1) := by decide +kernel
theorem dX8_write_44 : decode cX8_write 44 = .ok (.istore 4, 2) := by decide +kernel
theorem dX8_write_46 : decode cX8_write 46 = .ok (.iconst 0, 1) := by decide +kernel
theorem dX8_write_47 : decode cX8_write 47 = .ok (.istore 5, 2) := by decide +kernel
theorem dX8_write_49 : decode cX8_write 49 = .ok (.iload 5, 2) := by decide +kernel
theorem dX8_write_51 : decode cX8_write 51 = .ok (.aload_n 3, 1) := by decide +kernel
theorem dX8_write_52 : decode cX8_write 52 = .ok (.getfield 155, 3) := by decide +kernel
theorem dX8_write_55 : decode cX8_write 55 = .ok (.if_icmp .ge 36, 3) := by decide +kernel
theorem dX8_write_58 : decode cX8_write 58 = .ok (.iload 4, 2) := by decide +kernel
theorem dX8_write_60 : decode cX8_write 60 = .ok (.aload_n 0, 1) := by decide +kernel
theorem dX8_write_61 : decode cX8_write 61 = .ok (.getfield 12, 3) := by decide +kernel
theorem dX8_write_64 : decode cX8_write 64 = .ok (.iload_n 2, 1) := by decide +kernel
theorem dX8_write_65 : decode cX8_write 65 = .ok (.iload 5, 2) := by decide +kernel
theorem dX8_write_67 : decode cX8_write 67 = .ok (.iadd, 1) := by decide +kernel
theorem dX8_write_68 : decode cX8_write 68 = .ok (.getstatic 83, 3) := by decide +kernel
theorem dX8_write_71 : decode cX8_write 71 = .ok (.aload_n 3, 1) := by decide +kernel
theorem dX8_write_72 : decode cX8_write 72 = .ok (.getfield 156, 3) := by decide +kernel
theorem dX8_write_75 : decode cX8_write 75 = .ok (.iload 5, 2) := by decide +kernel
theorem dX8_write_77 : decode cX8_write 77 = .ok (.iaload, 1) := by decide +kernel
theorem dX8_write_78 : decode cX8_write 78 = .ok (.iaload, 1) := by decide +kernel
theorem dX8_write_79 : decode cX8_write 79 = .ok (.invokevirtual 99, 3) := by decide +kernel
theorem dX8_write_82 : decode cX8_write 82 = .ok (.iadd, 1) := by decide +kernel
theorem dX8_write_83 : decode cX8_write 83 = .ok (.istore 4, 2) := by decide +kernel
theorem dX8_write_85 : decode cX8_write 85 = .ok (.iinc 5 1, 3) := by decide +kernel
theorem dX8_write_88 : decode cX8_write 88 = .ok (.goto (-39), 3) := by decide +kernel
theorem dX8_write_91 : decode cX8_write 91 = .ok (.iload 4, 2) := by decide +kernel
theorem dX8_write_93 : decode cX8_write 93 = .ok (.ireturn, 1) := by decide +kernel
theorem dX8_share_0 : decode cX8_share 0 = .ok (.aload_n 0, 1) := by decide +kernel
theorem dX8_share_1 : decode cX8_share 1 = .ok (.iload_n 1, 1) := by decide +kernel
theorem dX8_share_2 : decode cX8_share 2 = .ok (.invokevirtual 144, 3) := by decide +kernel
theorem dX8_share_5 : decode cX8_share 5 = .ok (.ifCond .eq 20, 3) := by decide +kernel
theorem dX8_share_8 : decode cX8_share 8 = .ok (.aload_n 0, 1) := by decide +kernel
theorem dX8_share_9 : decode cX8_share 9 = .ok (.iload_n 2, 1) := by decide +kernel
theorem dX8_share_10 : decode cX8_share 10 = .ok (.invokevirtual 70, 3) := by decide +kernel
theorem dX8_share_13 : decode cX8_share 13 = .ok (.ifCond .eq 12, 3) := by decide +kernel
theorem dX8_share_16 : decode cX8_share 16 = .ok (.iload_n 3, 1) := by decide +kernel
theorem dX8_share_17 : decode cX8_share 17 = .ok (.bipush 6, 2) := by decide +kernel
theorem dX8_share_19 : decode cX8_share 19 = .ok (.invokestatic 51, 3) := by decide +kernel
theorem dX8_share_22 : decode cX8_share 22 = .ok (.ifCond .ne 5, 3) := by decide +kernel
theorem dX8_share_25 : decode cX8_share 25 = .ok (.iconst (-1), 1) := by decide +kernel
theorem dX8_share_26 : decode cX8_share 26 = .ok (.ireturn, 1) := by decide +kernel
theorem dX8_share_27 : decode cX8_share 27 = .ok (.aload_n 0, 1) := by decide +kernel
theorem dX8_share_28 : decode cX8_share 28 = .ok (.getfield 12, 3) := by decide +kernel
theorem dX8_share_31 : decode cX8_share 31 = .ok (.getfield 147, 3) := by decide +kernel
theorem dX8_share_34 : decode cX8_share 34 = .ok (.iload_n 1, 1) := by decide +kernel
theorem dX8_share_35 : decode cX8_share 35 = .ok (.aaload, 1) := by decide +kernel
theorem dX8_share_36 : decode cX8_share 36 = .ok (.astore 4, 2) := by decide +kernel
theorem dX8_share_38 : decode cX8_share 38 = .ok (.aload_n 0, 1) := by decide +kernel
theorem dX8_share_39 : decode cX8_share 39 = .ok (.getfield 12, 3) := by decide +kernel
theorem dX8_share_42 : decode cX8_share 42 = .ok (.aload 4, 2) := by decide +kernel
theorem dX8_share_44 : decode cX8_share 44 = .ok (.iload_n 2, 1) := by decide +kernel
theorem dX8_share_45 : decode cX8_share 45 = .ok (.invokevirtual 189, 3) := by decide +kernel
theorem dX8_share_48 : decode cX8_share 48 = .ok (.ifCond .ne 6, 3) := by decide +kernel
theorem dX8_share_51 : decode cX8_share 51 = .ok (.bipush (-2), 2) := by decide +kernel
theorem dX8_share_53 : decode cX8_share 53 = .ok (.ireturn, 1) := by decide +kernel
theorem dX8_share_54 : decode cX8_share 54 = .ok (.aload 4, 2) := by decide +kernel
theorem dX8_share_56 : decode cX8_share 56 = .ok (.getfield 150, 3) := by decide +kernel
theorem dX8_share_59 : decode cX8_share 59 = .ok (.aload_n 0, 1) := by decide +kernel
theorem dX8_share_60 : decode cX8_share 60 = .ok (.getfield 12, 3) := by decide +kernel
theorem dX8_share_63 : decode cX8_share 63 = .ok (.aload 4, 2) := by decide +kernel
theorem dX8_share_65 : decode cX8_share 65 = .ok (.iload_n 2, 1) := by decide +kernel
theorem dX8_share_66 : decode cX8_share 66 = .ok (.invokevirtual 200, 3) := by decide +kernel
theorem dX8_share_69 : decode cX8_share 69 = .ok (.isub, 1) := by decide +kernel
theorem dX8_share_70 : decode cX8_share 70 = .ok (.istore 5, 2) := by decide +kernel
theorem dX8_share_72 : decode cX8_share 72 = .ok (.iload 5, 2) := by decide +kernel
theorem dX8_share_74 : decode cX8_share 74 = .ok (.ifCond .ge 8, 3) := by decide +kernel
theorem dX8_share_77 : decode cX8_share 77 = .ok (.bipush (-2), 2) := by decide +kernel
theorem dX8_share_79 : decode cX8_share 79 = .ok (.goto 16, 3) := by decide +kernel
theorem dX8_share_82 : decode cX8_share 82 = .ok (.aload_n 0, 1) := by decide +kernel
theorem dX8_share_83 : decode cX8_share 83 = .ok (.getfield 12, 3) := by decide +kernel
theorem dX8_share_86 : decode cX8_share 86 = .ok (.aload 4, 2) := by decide +kernel
theorem dX8_share_88 : decode cX8_share 88 = .ok (.iload_n 2, 1) := by decide +kernel
theorem dX8_share_89 : decode cX8_share 89 = .ok (.iload_n 3, 1) := by decide +kernel
theorem dX8_share_90 : decode cX8_share 90 = .ok (.iload 5, 2) := by decide +kernel
theorem dX8_share_92 : decode cX8_share 92 = .ok (.invokevirtual 206, 3) := by decide +kernel
theorem dX8_share_95 : decode cX8_share 95 = .ok (.ireturn, 1) := by decide +kernel
theorem dX8_sure_0 : decode cX8_sure 0 = .ok (.iload_n 1, 1) := by decide +kernel
theorem dX8_sure_1 : decode cX8_sure 1 = .ok (.bipush 26, 2) := by decide +kernel
theorem dX8_sure_3 : decode cX8_sure 3 = .ok (.invokestatic 51, 3) := by decide +kernel
theorem dX8_sure_6 : decode cX8_sure 6 = .ok (.ifCond .eq 13, 3) := by decide +kernel
theorem dX8_sure_9 : decode cX8_sure 9 = .ok (.iload_n 2, 1) := by decide +kernel
theorem dX8_sure_10 : decode cX8_sure 10 = .ok (.ifCond .lt 9, 3) := by decide +kernel
theorem dX8_sure_13 : decode cX8_sure 13 = .ok (.iload_n 2, 1) := by decide +kernel
theorem dX8_sure_14 : decode cX8_sure 14 = .ok (.bipush 8, 2) := by decide +kernel
theorem dX8_sure_16 : decode cX8_sure 16 = .ok (.if_icmp .le 5, 3) := by decide +kernel
theorem dX8_sure_19 : decode cX8_sure 19 = .ok (.iconst (-1), 1) := by decide +kernel
theorem dX8_sure_20 : decode cX8_sure 20 = .ok (.ireturn, 1) := by decide +kernel
theorem dX8_sure_21 : decode cX8_sure 21 = .ok (.aload_n 0, 1) := by decide +kernel
theorem dX8_sure_22 : decode cX8_sure 22 = .ok (.getfield 33, 3) := by decide +kernel
theorem dX8_sure_25 : decode cX8_sure 25 = .ok (.iload_n 1, 1) := by decide +kernel
theorem dX8_sure_26 : decode cX8_sure 26 = .ok (.iload_n 2, 1) := by decide +kernel
theorem dX8_sure_27 : decode cX8_sure 27 = .ok (.aload_n 0, 1) := by decide +kernel
theorem dX8_sure_28 : decode cX8_sure 28 = .ok (.getfield 12, 3) := by decide +kernel
theorem dX8_sure_31 : decode cX8_sure 31 = .ok (.getfield 67, 3) := by decide +kernel
theorem dX8_sure_34 : decode cX8_sure 34 = .ok (.iconst 2, 1) := by decide +kernel
theorem dX8_sure_35 : decode cX8_sure 35 = .ok (.iaload, 1) := by decide +kernel
theorem dX8_sure_36 : decode cX8_sure 36 = .ok (.invokevirtual 210, 3) := by decide +kernel
theorem dX8_sure_39 : decode cX8_sure 39 = .ok (.ireturn, 1) := by decide +kernel
theorem dX8_taken_0 : decode cX8_taken 0 = .ok (.iload_n 1, 1) := by decide +kernel
theorem dX8_taken_1 : decode cX8_taken 1 = .ok (.bipush 26, 2) := by decide +kernel
theorem dX8_taken_3 : decode cX8_taken 3 = .ok (.invokestatic 51, 3) := by decide +kernel
theorem dX8_taken_6 : decode cX8_taken 6 = .ok (.ifCond .eq 13, 3) := by decide +kernel
theorem dX8_taken_9 : decode cX8_taken 9 = .ok (.iload_n 2, 1) := by decide +kernel
theorem dX8_taken_10 : decode cX8_taken 10 = .ok (.ifCond .lt 9, 3) := by decide +kernel
theorem dX8_taken_13 : decode cX8_taken 13 = .ok (.iload_n 2, 1) := by decide +kernel
theorem dX8_taken_14 : decode cX8_taken 14 = .ok (.bipush 8, 2) := by decide +kernel
theorem dX8_taken_16 : decode cX8_taken 16 = .ok (.if_icmp .le 5, 3) := by decide +kernel
theorem dX8_taken_19 : decode cX8_taken 19 = .ok (.iconst (-1), 1) := by decide +kernel
theorem dX8_taken_20 : decode cX8_taken 20 = .ok (.ireturn, 1) := by decide +kernel
theorem dX8_taken_21 : decode cX8_taken 21 = .ok (.aload_n 0, 1) := by decide +kernel
theorem dX8_taken_22 : decode cX8_taken 22 = .ok (.getfield 33, 3) := by decide +kernel
theorem dX8_taken_25 : decode cX8_taken 25 = .ok (.iload_n 1, 1) := by decide +kernel
theorem dX8_taken_26 : decode cX8_taken 26 = .ok (.iload_n 2, 1) := by decide +kernel
theorem dX8_taken_27 : decode cX8_taken 27 = .ok (.aload_n 0, 1) := by decide +kernel
theorem dX8_taken_28 : decode cX8_taken 28 = .ok (.getfield 12, 3) := by decide +kernel
theorem dX8_taken_31 : decode cX8_taken 31 = .ok (.getfield 67, 3) := by decide +kernel
theorem dX8_taken_34 : decode cX8_taken 34 = .ok (.iconst 2, 1) := by decide +kernel
theorem dX8_taken_35 : decode cX8_taken 35 = .ok (.iaload, 1) := by decide +kernel
theorem dX8_taken_36 : decode cX8_taken 36 = .ok (.invokevirtual 214, 3) := by decide +kernel
theorem dX8_taken_39 : decode cX8_taken 39 = .ok (.ireturn, 1) := by decide +kernel
theorem dX8_fades_0 : decode cX8_fades 0 = .ok (.aload_n 0, 1) := by decide +kernel
theorem dX8_fades_1 : decode cX8_fades 1 = .ok (.iload_n 1, 1) := by decide +kernel
theorem dX8_fades_2 : decode cX8_fades 2 = .ok (.invokevirtual 144, 3) := by decide +kernel
theorem dX8_fades_5 : decode cX8_fades 5 = .ok (.ifCond .eq 11, 3) := by decide +kernel
theorem dX8_fades_8 : decode cX8_fades 8 = .ok (.aload_n 0, 1) := by decide +kernel
theorem dX8_fades_9 : decode cX8_fades 9 = .ok (.iload_n 2, 1) := by decide +kernel
theorem dX8_fades_10 : decode cX8_fades 10 = .ok (.invokevirtual 70, 3) := by decide +kernel
theorem dX8_fades_13 : decode cX8_fades 13 = .ok (.ifCond .ne 5, 3) := by decide +kernel
theorem dX8_fades_16 : decode cX8_fades 16 = .ok (.iconst (-1), 1) := by decide +kernel
theorem dX8_fades_17 : decode cX8_fades 17 = .ok (.ireturn, 1) := by decide +kernel
theorem dX8_fades_18 : decode cX8_fades 18 = .ok (.aload_n 0, 1) := by decide +kernel
theorem dX8_fades_19 : decode cX8_fades 19 = .ok (.getfield 12, 3) := by decide +kernel
theorem dX8_fades_22 : decode cX8_fades 22 = .ok (.getfield 147, 3) := by decide +kernel
theorem dX8_fades_25 : decode cX8_fades 25 = .ok (.iload_n 1, 1) := by decide +kernel
theorem dX8_fades_26 : decode cX8_fades 26 = .ok (.aaload, 1) := by decide +kernel
theorem dX8_fades_27 : decode cX8_fades 27 = .ok (.astore_n 3, 1) := by decide +kernel
theorem dX8_fades_28 : decode cX8_fades 28 = .ok (.aload_n 0, 1) := by decide +kernel
theorem dX8_fades_29 : decode cX8_fades 29 = .ok (.getfield 12, 3) := by decide +kernel
theorem dX8_fades_32 : decode cX8_fades 32 = .ok (.aload_n 3, 1) := by decide +kernel
theorem dX8_fades_33 : decode cX8_fades 33 = .ok (.iload_n 2, 1) := by decide +kernel
theorem dX8_fades_34 : decode cX8_fades 34 = .ok (.iconst 0, 1) := by decide +kernel
theorem dX8_fades_35 : decode cX8_fades 35 = .ok (.invokevirtual 172, 3) := by decide +kernel
theorem dX8_fades_38 : decode cX8_fades 38 = .ok (.ifCond .ne 6, 3) := by decide +kernel
theorem dX8_fades_41 : decode cX8_fades 41 = .ok (.bipush (-2), 2) := by decide +kernel
theorem dX8_fades_43 : decode cX8_fades 43 = .ok (.ireturn, 1) := by decide +kernel
theorem dX8_fades_44 : decode cX8_fades 44 = .ok (.iconst 1, 1) := by decide +kernel
theorem dX8_fades_45 : decode cX8_fades 45 = .ok (.istore 4, 2) := by decide +kernel
theorem dX8_fades_47 : decode cX8_fades 47 = .ok (.iload 4, 2) := by decide +kernel
theorem dX8_fades_49 : decode cX8_fades 49 = .ok (.bipush 30, 2) := by decide +kernel
theorem dX8_fades_51 : decode cX8_fades 51 = .ok (.if_icmp .gt 26, 3) := by decide +kernel
theorem dX8_fades_54 : decode cX8_fades 54 = .ok (.aload_n 0, 1) := by decide +kernel
theorem dX8_fades_55 : decode cX8_fades 55 = .ok (.getfield 12, 3) := by decide +kernel
theorem dX8_fades_58 : decode cX8_fades 58 = .ok (.aload_n 3, 1) := by decide +kernel
theorem dX8_fades_59 : decode cX8_fades 59 = .ok (.iload_n 2, 1) := by decide +kernel
theorem dX8_fades_60 : decode cX8_fades 60 = .ok (.iload 4, 2) := by decide +kernel
theorem dX8_fades_62 : decode cX8_fades 62 = .ok (.invokevirtual 172, 3) := by decide +kernel
theorem dX8_fades_65 : decode cX8_fades 65 = .ok (.ifCond .ne 6, 3) := by decide +kernel
theorem dX8_fades_68 : decode cX8_fades 68 = .ok (.iload 4, 2) := by decide +kernel
theorem dX8_fades_70 : decode cX8_fades 70 = .ok (.ireturn, 1) := by decide +kernel
theorem dX8_fades_71 : decode cX8_fades 71 = .ok (.iinc 4 1, 3) := by decide +kernel
theorem dX8_fades_74 : decode cX8_fades 74 = .ok (.goto (-27), 3) := by decide +kernel
theorem dX8_fades_77 : decode cX8_fades 77 = .ok (.bipush (-4), 2) := by decide +kernel
theorem dX8_fades_79 : decode cX8_fades 79 = .ok (.ireturn, 1) := by decide +kernel
theorem dX8_brief_0 : decode cX8_brief 0 = .ok (.aload_n 0, 1) := by decide +kernel
theorem dX8_brief_1 : decode cX8_brief 1 = .ok (.iload_n 1, 1) := by decide +kernel
theorem dX8_brief_2 : decode cX8_brief 2 = .ok (.invokevirtual 144, 3) := by decide +kernel
theorem dX8_brief_5 : decode cX8_brief 5 = .ok (.ifCond .ne 5, 3) := by decide +kernel
theorem dX8_brief_8 : decode cX8_brief 8 = .ok (.iconst (-1), 1) := by decide +kernel
theorem dX8_brief_9 : decode cX8_brief 9 = .ok (.ireturn, 1) := by decide +kernel
theorem dX8_brief_10 : decode cX8_brief 10 = .ok (.bipush (-4), 2) := by decide +kernel
theorem dX8_brief_12 : decode cX8_brief 12 = .ok (.istore_n 2, 1) := by decide +kernel
theorem dX8_brief_13 : decode cX8_brief 13 = .ok (.bipush 7, 2) := by decide +kernel
theorem dX8_brief_15 : decode cX8_brief 15 = .ok (.istore_n 3, 1) := by decide +kernel
theorem dX8_brief_16 : decode cX8_brief 16 = .ok (.iconst 1, 1) := by decide +kernel
theorem dX8_brief_17 : decode cX8_brief 17 = .ok (.aload_n 0, 1) := by decide +kernel
theorem dX8_brief_18 : decode cX8_brief 18 = .ok (.getfield 12, 3) := by decide +kernel
theorem dX8_brief_21 : decode cX8_brief 21 = .ok (.getfield 147, 3) := by decide +kernel
theorem dX8_brief_24 : decode cX8_brief 24 = .ok (.iload_n 1, 1) := by decide +kernel
theorem dX8_brief_25 : decode cX8_brief 25 = .ok (.aaload, 1) := by decide +kernel
theorem dX8_brief_26 : decode cX8_brief 26 = .ok (.getfield 155, 3) := by decide +kernel
theorem dX8_brief_29 : decode cX8_brief 29 = .ok (.ishl, 1) := by decide +kernel
theorem dX8_brief_30 : decode cX8_brief 30 = .ok (.istore 4, 2) := by decide +kernel
theorem dX8_brief_32 : decode cX8_brief 32 = .ok (.iconst 1, 1) := by decide +kernel
theorem dX8_brief_33 : decode cX8_brief 33 = .ok (.istore 5, 2) := by decide +kernel
theorem dX8_brief_35 : decode cX8_brief 35 = .ok (.iload 5, 2) := by decide +kernel
theorem dX8_brief_37 : decode cX8_brief 37 = .ok (.iload 4, 2) := by decide +kernel
theorem dX8_brief_39 : decode cX8_brief 39 = .ok (.if_icmp .ge 48, 3) := by decide +kernel
theorem dX8_brief_42 : decode cX8_brief 42 = .ok (.iload 5, 2) := by decide +kernel
theorem dX8_brief_44 : decode cX8_brief 44 = .ok (.invokestatic 217, 3) := by decide +kernel
theorem dX8_brief_47 : decode cX8_brief 47 = .ok (.iload_n 3, 1) := by decide +kernel
theorem dX8_brief_48 : decode cX8_brief 48 = .ok (.if_icmp .ge 33, 3) := by decide +kernel
theorem dX8_brief_51 : decode cX8_brief 51 = .ok (.aload_n 0, 1) := by decide +kernel
theorem dX8_brief_52 : decode cX8_brief 52 = .ok (.getfield 12, 3) := by decide +kernel
theorem dX8_brief_55 : decode cX8_brief 55 = .ok (.aload_n 0, 1) := by decide +kernel
theorem dX8_brief_56 : decode cX8_brief 56 = .ok (.getfield 12, 3) := by decide +kernel
theorem dX8_brief_59 : decode cX8_brief 59 = .ok (.getfield 147, 3) := by decide +kernel
theorem dX8_brief_62 : decode cX8_brief 62 = .ok (.iload_n 1, 1) := by decide +kernel
theorem dX8_brief_63 : decode cX8_brief 63 = .ok (.aaload, 1) := by decide +kernel
theorem dX8_brief_64 : decode cX8_brief 64 = .ok (.iload 5, 2) := by decide +kernel
theorem dX8_brief_66 : decode cX8_brief 66 = .ok (.invokevirtual 222, 3) := by decide +kernel
theorem dX8_brief_69 : decode cX8_brief 69 = .ok (.ifCond .eq 12, 3) := by decide +kernel
theorem dX8_brief_72 : decode cX8_brief 72 = .ok (.iload 5, 2) := by decide +kernel
theorem dX8_brief_74 : decode cX8_brief 74 = .ok (.istore_n 2, 1) := by decide +kernel
theorem dX8_brief_75 : decode cX8_brief 75 = .ok (.iload 5, 2) := by decide +kernel
theorem dX8_brief_77 : decode cX8_brief 77 = .ok (.invokestatic 217, 3) := by decide +kernel
theorem dX8_brief_80 : decode cX8_brief 80 = .ok (.istore_n 3, 1) := by decide +kernel
theorem dX8_brief_81 : decode cX8_brief 81 = .ok (.iinc 5 1, 3) := by decide +kernel
theorem dX8_brief_84 : decode cX8_brief 84 = .ok (.goto (-49), 3) := by decide +kernel
theorem dX8_brief_87 : decode cX8_brief 87 = .ok (.iload_n 2, 1) := by decide +kernel
theorem dX8_brief_88 : decode cX8_brief 88 = .ok (.ireturn, 1) := by decide +kernel
theorem dX8_image_0 : decode cX8_image 0 = .ok (.aload_n 0, 1) := by decide +kernel
theorem dX8_image_1 : decode cX8_image 1 = .ok (.getfield 16, 3) := by decide +kernel
theorem dX8_image_4 : decode cX8_image 4 = .ok (.aload_n 0, 1) := by decide +kernel
theorem dX8_image_5 : decode cX8_image 5 = .ok (.getfield 12, 3) := by decide +kernel
theorem dX8_image_8 : decode cX8_image 8 = .ok (.invokevirtual 225, 3) := by decide +kernel
theorem dX8_image_11 : decode cX8_image 11 = .ok (.aload_n 0, 1) := by decide +kernel
theorem dX8_image_12 : decode cX8_image 12 = .ok (.iconst 1, 1) := by decide +kernel
theorem dX8_image_13 : decode cX8_image 13 = .ok (.putfield 19, 3) := by decide +kernel
theorem dX8_image_16 : decode cX8_image 16 = .ok (.iconst 1, 1) := by decide +kernel
theorem dX8_image_17 : decode cX8_image 17 = .ok (.ireturn, 1) := by decide +kernel
theorem dX8_restore_0 : decode cX8_restore 0 = .ok (.aload_n 0, 1) := by decide +kernel
theorem dX8_restore_1 : decode cX8_restore 1 = .ok (.getfield 19, 3) := by decide +kernel
theorem dX8_restore_4 : decode cX8_restore 4 = .ok (.ifCond .ne 6, 3) := by decide +kernel
theorem dX8_restore_7 : decode cX8_restore 7 = .ok (.bipush (-4), 2) := by decide +kernel
theorem dX8_restore_9 : decode cX8_restore 9 = .ok (.ireturn, 1) := by decide +kernel
theorem dX8_restore_10 : decode cX8_restore 10 = .ok (.aload_n 0, 1) := by decide +kernel
theorem dX8_restore_11 : decode cX8_restore 11 = .ok (.getfield 12, 3) := by decide +kernel
theorem dX8_restore_14 : decode cX8_restore 14 = .ok (.aload_n 0, 1) := by decide +kernel
theorem dX8_restore_15 : decode cX8_restore 15 = .ok (.getfield 16, 3) := by decide +kernel
theorem dX8_restore_18 : decode cX8_restore 18 = .ok (.invokevirtual 225, 3) := by decide +kernel
theorem dX8_restore_21 : decode cX8_restore 21 = .ok (.iconst 1, 1) := by decide +kernel
theorem dX8_restore_22 : decode cX8_restore 22 = .ok (.ireturn, 1) := by decide +kernel
theorem dX8_sow_0 : decode cX8_sow 0 = .ok (.aload_n 0, 1) := by decide +kernel
theorem dX8_sow_1 : decode cX8_sow 1 = .ok (.iload_n 1, 1) := by decide +kernel
theorem dX8_sow_2 : decode cX8_sow 2 = .ok (.invokevirtual 70, 3) := by decide +kernel
theorem dX8_sow_5 : decode cX8_sow 5 = .ok (.ifCond .eq 11, 3) := by decide +kernel
theorem dX8_sow_8 : decode cX8_sow 8 = .ok (.iload_n 2, 1) := by decide +kernel
theorem dX8_sow_9 : decode cX8_sow 9 = .ok (.iload_n 3, 1) := by decide +kernel
theorem dX8_sow_10 : decode cX8_sow 10 = .ok (.invokestatic 228, 3) := by decide +kernel
theorem dX8_sow_13 : decode cX8_sow 13 = .ok (.ifCond .ne 5, 3) := by decide +kernel
theorem dX8_sow_16 : decode cX8_sow 16 = .ok (.iconst (-1), 1) := by decide +kernel
theorem dX8_sow_17 : decode cX8_sow 17 = .ok (.ireturn, 1) := by decide +kernel
theorem dX8_sow_18 : decode cX8_sow 18 = .ok (.aload_n 0, 1) := by decide +kernel
theorem dX8_sow_19 : decode cX8_sow 19 = .ok (.getfield 46, 3) := by decide +kernel
theorem dX8_sow_22 : decode cX8_sow 22 = .ok (.iload_n 2, 1) := by decide +kernel
theorem dX8_sow_23 : decode cX8_sow 23 = .ok (.aaload, 1) := by decide +kernel
theorem dX8_sow_24 : decode cX8_sow 24 = .ok (.astore 5, 2) := by decide +kernel
theorem dX8_sow_26 : decode cX8_sow 26 = .ok (.aload 5, 2) := by decide +kernel
theorem dX8_sow_28 : decode cX8_sow 28 = .ok (.iload_n 3, 1) := by decide +kernel
theorem dX8_sow_29 : decode cX8_sow 29 = .ok (.iload 4, 2) := by decide +kernel
theorem dX8_sow_31 : decode cX8_sow 31 = .ok (.bipush 15, 2) := by decide +kernel
theorem dX8_sow_33 : decode cX8_sow 33 = .ok (.invokevirtual 231, 3) := by decide +kernel
theorem dX8_sow_36 : decode cX8_sow 36 = .ok (.istore 6, 2) := by decide +kernel
theorem dX8_sow_38 : decode cX8_sow 38 = .ok (.iload 6, 2) := by decide +kernel
theorem dX8_sow_40 : decode cX8_sow 40 = .ok (.ifCond .eq 6, 3) := by decide +kernel
theorem dX8_sow_43 : decode cX8_sow 43 = .ok (.iload 6, 2) := by decide +kernel
theorem dX8_sow_45 : decode cX8_sow 45 = .ok (.ireturn, 1) := by decide +kernel
theorem dX8_sow_46 : decode cX8_sow 46 = .ok (.aload 5, 2) := by decide +kernel
theorem dX8_sow_48 : decode cX8_sow 48 = .ok (.iload 4, 2) := by decide +kernel
theorem dX8_sow_50 : decode cX8_sow 50 = .ok (.invokevirtual 234, 3) := by decide +kernel
theorem dX8_sow_53 : decode cX8_sow 53 = .ok (.ifCond .eq 25, 3) := by decide +kernel
theorem dX8_sow_56 : decode cX8_sow 56 = .ok (.aload_n 0, 1) := by decide +kernel
theorem dX8_sow_57 : decode cX8_sow 57 = .ok (.getfield 12, 3) := by decide +kernel
theorem dX8_sow_60 : decode cX8_sow 60 = .ok (.getfield 74, 3) := by decide +kernel
theorem dX8_sow_63 : decode cX8_sow 63 = .ok (.iload_n 1, 1) := by decide +kernel
theorem dX8_sow_64 : decode cX8_sow 64 = .ok (.aaload, 1) := by decide +kernel
theorem dX8_sow_65 : decode cX8_sow 65 = .ok (.aload 5, 2) := by decide +kernel
theorem dX8_sow_67 : decode cX8_sow 67 = .ok (.getfield 237, 3) := by decide +kernel
theorem dX8_sow_70 : decode cX8_sow 70 = .ok (.iload 4, 2) := by decide +kernel
theorem dX8_sow_72 : decode cX8_sow 72 = .ok (.invokevirtual 240, 3) := by decide +kernel
theorem dX8_sow_75 : decode cX8_sow 75 = .ok (.goto 5, 3) := by decide +kernel
theorem dX8_sow_78 : decode cX8_sow 78 = .ok (.bipush (-2), 2) := by decide +kernel
theorem dX8_sow_80 : decode cX8_sow 80 = .ok (.ireturn, 1) := by decide +kernel
theorem dX8_sheet_0 : decode cX8_sheet 0 = .ok (.iload_n 1, 1) := by decide +kernel
theorem dX8_sheet_1 : decode cX8_sheet 1 = .ok (.iload_n 2, 1) := by decide +kernel
theorem dX8_sheet_2 : decode cX8_sheet 2 = .ok (.invokestatic 228, 3) := by decide +kernel
theorem dX8_sheet_5 : decode cX8_sheet 5 = .ok (.ifCond .eq 9, 3) := by decide +kernel
theorem dX8_sheet_8 : decode cX8_sheet 8 = .ok (.iload_n 3, 1) := by decide +kernel
theorem dX8_sheet_9 : decode cX8_sheet 9 = .ok (.bipush 24, 2) := by decide +kernel
theorem dX8_sheet_11 : decode cX8_sheet 11 = .ok (.if_icmp .le 5, 3) := by decide +kernel
theorem dX8_sheet_14 : decode cX8_sheet 14 = .ok (.iconst (-1), 1) := by decide +kernel
theorem dX8_sheet_15 : decode cX8_sheet 15 = .ok (.ireturn, 1) := by decide +kernel
theorem dX8_sheet_16 : decode cX8_sheet 16 = .ok (.iload_n 3, 1) := by decide +kernel
theorem dX8_sheet_17 : decode cX8_sheet 17 = .ok (.ifCond .ge 6, 3) := by decide +kernel
theorem dX8_sheet_20 : decode cX8_sheet 20 = .ok (.bipush (-14), 2) := by decide +kernel
theorem dX8_sheet_22 : decode cX8_sheet 22 = .ok (.ireturn, 1) := by decide +kernel
theorem dX8_sheet_23 : decode cX8_sheet 23 = .ok (.aload_n 0, 1) := by decide +kernel
theorem dX8_sheet_24 : decode cX8_sheet 24 = .ok (.getfield 46, 3) := by decide +kernel
theorem dX8_sheet_27 : decode cX8_sheet 27 = .ok (.iload_n 1, 1) := by decide +kernel
theorem dX8_sheet_28 : decode cX8_sheet 28 = .ok (.aaload, 1) := by decide +kernel
theorem dX8_sheet_29 : decode cX8_sheet 29 = .ok (.iload_n 2, 1) := by decide +kernel
theorem dX8_sheet_30 : decode cX8_sheet 30 = .ok (.iload_n 3, 1) := by decide +kernel
theorem dX8_sheet_31 : decode cX8_sheet 31 = .ok (.invokevirtual 244, 3) := by decide +kernel
theorem dX8_sheet_34 : decode cX8_sheet 34 = .ok (.iload_n 3, 1) := by decide +kernel
theorem dX8_sheet_35 : decode cX8_sheet 35 = .ok (.ireturn, 1) := by decide +kernel
theorem dX8_drop_0 : decode cX8_drop 0 = .ok (.iload_n 1, 1) := by decide +kernel
theorem dX8_drop_1 : decode cX8_drop 1 = .ok (.iconst 4, 1) := by decide +kernel
theorem dX8_drop_2 : decode cX8_drop 2 = .ok (.invokestatic 51, 3) := by decide +kernel
theorem dX8_drop_5 : decode cX8_drop 5 = .ok (.ifCond .ne 5, 3) := by decide +kernel
theorem dX8_drop_8 : decode cX8_drop 8 = .ok (.iconst (-1), 1) := by decide +kernel
theorem dX8_drop_9 : decode cX8_drop 9 = .ok (.ireturn, 1) := by decide +kernel
theorem dX8_drop_10 : decode cX8_drop 10 = .ok (.aload_n 0, 1) := by decide +kernel
theorem dX8_drop_11 : decode cX8_drop 11 = .ok (.getfield 46, 3) := by decide +kernel
theorem dX8_drop_14 : decode cX8_drop 14 = .ok (.iload_n 1, 1) := by decide +kernel
theorem dX8_drop_15 : decode cX8_drop 15 = .ok (.aaload, 1) := by decide +kernel
theorem dX8_drop_16 : decode cX8_drop 16 = .ok (.astore_n 2, 1) := by decide +kernel
theorem dX8_drop_17 : decode cX8_drop 17 = .ok (.aload_n 2, 1) := by decide +kernel
theorem dX8_drop_18 : decode cX8_drop 18 = .ok (.getfield 248, 3) := by decide +kernel
theorem dX8_drop_21 : decode cX8_drop 21 = .ok (.iconst (-1), 1) := by decide +kernel
theorem dX8_drop_22 : decode cX8_drop 22 = .ok (.if_icmp .ne 6, 3) := by decide +kernel
theorem dX8_drop_25 : decode cX8_drop 25 = .ok (.bipush (-11), 2) := by decide +kernel
theorem dX8_drop_27 : decode cX8_drop 27 = .ok (.ireturn, 1) := by decide +kernel
theorem dX8_drop_28 : decode cX8_drop 28 = .ok (.aload_n 2, 1) := by decide +kernel
theorem dX8_drop_29 : decode cX8_drop 29 = .ok (.iconst (-1), 1) := by decide +kernel
theorem dX8_drop_30 : decode cX8_drop 30 = .ok (.putfield 248, 3) := by decide +kernel
theorem dX8_drop_33 : decode cX8_drop 33 = .ok (.aload_n 2, 1) := by decide +kernel
theorem dX8_drop_34 : decode cX8_drop 34 = .ok (.getfield 251, 3) := by decide +kernel
theorem dX8_drop_37 : decode cX8_drop 37 = .ok (.ireturn, 1) := by decide +kernel
theorem dX8_item_0 : decode cX8_item 0 = .ok (.iload_n 1, 1) := by decide +kernel
theorem dX8_item_1 : decode cX8_item 1 = .ok (.iload_n 2, 1) := by decide +kernel
theorem dX8_item_2 : decode cX8_item 2 = .ok (.invokestatic 228, 3) := by decide +kernel
theorem dX8_item_5 : decode cX8_item 5 = .ok (.ifCond .ne 5, 3) := by decide +kernel
theorem dX8_item_8 : decode cX8_item 8 = .ok (.iconst (-1), 1) := by decide +kernel
theorem dX8_item_9 : decode cX8_item 9 = .ok (.ireturn, 1) := by decide +kernel
theorem dX8_item_10 : decode cX8_item 10 = .ok (.aload_n 0, 1) := by decide +kernel
theorem dX8_item_11 : decode cX8_item 11 = .ok (.getfield 46, 3) := by decide +kernel
theorem dX8_item_14 : decode cX8_item 14 = .ok (.iload_n 1, 1) := by decide +kernel
theorem dX8_item_15 : decode cX8_item 15 = .ok (.aaload, 1) := by decide +kernel
theorem dX8_item_16 : decode cX8_item 16 = .ok (.iload_n 2, 1) := by decide +kernel
theorem dX8_item_17 : decode cX8_item 17 = .ok (.iload_n 3, 1) := by decide +kernel
theorem dX8_item_18 : decode cX8_item 18 = .ok (.iconst 1, 1) := by decide +kernel
theorem dX8_item_19 : decode cX8_item 19 = .ok (.invokevirtual 231, 3) := by decide +kernel
theorem dX8_item_22 : decode cX8_item 22 = .ok (.istore 5, 2) := by decide +kernel
theorem dX8_item_24 : decode cX8_item 24 = .ok (.iload 5, 2) := by decide +kernel
theorem dX8_item_26 : decode cX8_item 26 = .ok (.ifCond .eq 6, 3) := by decide +kernel
theorem dX8_item_29 : decode cX8_item 29 = .ok (.iload 5, 2) := by decide +kernel
theorem dX8_item_31 : decode cX8_item 31 = .ok (.ireturn, 1) := by decide +kernel
theorem dX8_item_32 : decode cX8_item 32 = .ok (.aload_n 0, 1) := by decide +kernel
theorem dX8_item_33 : decode cX8_item 33 = .ok (.getfield 46, 3) := by decide +kernel
theorem dX8_item_36 : decode cX8_item 36 = .ok (.iload_n 1, 1) := by decide +kernel
theorem dX8_item_37 : decode cX8_item 37 = .ok (.aaload, 1) := by decide +kernel
theorem dX8_item_38 : decode cX8_item 38 = .ok (.iload_n 3, 1) := by decide +kernel
theorem dX8_item_39 : decode cX8_item 39 = .ok (.iload 4, 2) := by decide +kernel
theorem dX8_item_41 : decode cX8_item 41 = .ok (.invokevirtual 252, 3) := by decide +kernel
theorem dX8_item_44 : decode cX8_item 44 = .ok (.iconst 1, 1) := by decide +kernel
theorem dX8_item_45 : decode cX8_item 45 = .ok (.ireturn, 1) := by decide +kernel
theorem dX8_film_0 : decode cX8_film 0 = .ok (.iload_n 1, 1) := by decide +kernel
theorem dX8_film_1 : decode cX8_film 1 = .ok (.iload_n 2, 1) := by decide +kernel
theorem dX8_film_2 : decode cX8_film 2 = .ok (.invokestatic 228, 3) := by decide +kernel
theorem dX8_film_5 : decode cX8_film 5 = .ok (.ifCond .ne 5, 3) := by decide +kernel
theorem dX8_film_8 : decode cX8_film 8 = .ok (.iconst (-1), 1) := by decide +kernel
theorem dX8_film_9 : decode cX8_film 9 = .ok (.ireturn, 1) := by decide +kernel
theorem dX8_film_10 : decode cX8_film 10 = .ok (.aload_n 0, 1) := by decide +kernel
theorem dX8_film_11 : decode cX8_film 11 = .ok (.getfield 46, 3) := by decide +kernel
theorem dX8_film_14 : decode cX8_film 14 = .ok (.iload_n 1, 1) := by decide +kernel
theorem dX8_film_15 : decode cX8_film 15 = .ok (.aaload, 1) := by decide +kernel
theorem dX8_film_16 : decode cX8_film 16 = .ok (.iload_n 2, 1) := by decide +kernel
theorem dX8_film_17 : decode cX8_film 17 = .ok (.iload_n 3, 1) := by decide +kernel
theorem dX8_film_18 : decode cX8_film 18 = .ok (.aload_n 0, 1) := by decide +kernel
theorem dX8_film_19 : decode cX8_film 19 = .ok (.getfield 12, 3) := by decide +kernel
theorem dX8_film_22 : decode cX8_film 22 = .ok (.getfield 55, 3) := by decide +kernel
theorem dX8_film_25 : decode cX8_film 25 = .ok (.invokevirtual 231, 3) := by decide +kernel
theorem dX8_film_28 : decode cX8_film 28 = .ok (.istore 4, 2) := by decide +kernel
theorem dX8_film_30 : decode cX8_film 30 = .ok (.iload 4, 2) := by decide +kernel
theorem dX8_film_32 : decode cX8_film 32 = .ok (.ifCond .eq 6, 3) := by decide +kernel
theorem dX8_film_35 : decode cX8_film 35 = .ok (.iload 4, 2) := by decide +kernel
theorem dX8_film_37 : decode cX8_film 37 = .ok (.ireturn, 1) := by decide +kernel
theorem dX8_film_38 : decode cX8_film 38 = .ok (.iconst 0, 1) := by decide +kernel
theorem dX8_film_39 : decode cX8_film 39 = .ok (.istore 5, 2) := by decide +kernel
theorem dX8_film_41 : decode cX8_film 41 = .ok (.iload 5, 2) := by decide +kernel
theorem dX8_film_43 : decode cX8_film 43 = .ok (.aload_n 0, 1) := by decide +kernel
theorem dX8_film_44 : decode cX8_film 44 = .ok (.getfield 12, 3) := by decide +kernel
theorem dX8_film_47 : decode cX8_film 47 = .ok (.getfield 55, 3) := by decide +kernel
theorem dX8_film_50 : decode cX8_film 50 = .ok (.if_icmp .ge 31, 3) := by decide +kernel
theorem dX8_film_53 : decode cX8_film 53 = .ok (.aload_n 0, 1) := by decide +kernel
theorem dX8_film_54 : decode cX8_film 54 = .ok (.getfield 46, 3) := by decide +kernel
theorem dX8_film_57 : decode cX8_film 57 = .ok (.iload_n 1, 1) := by decide +kernel
theorem dX8_film_58 : decode cX8_film 58 = .ok (.aaload, 1) := by decide +kernel
theorem dX8_film_59 : decode cX8_film 59 = .ok (.iload_n 3, 1) := by decide +kernel
theorem dX8_film_60 : decode cX8_film 60 = .ok (.iload 5, 2) := by decide +kernel
theorem dX8_film_62 : decode cX8_film 62 = .ok (.iadd, 1) := by decide +kernel
theorem dX8_film_63 : decode cX8_film 63 = .ok (.aload_n 0, 1) := by decide +kernel
theorem dX8_film_64 : decode cX8_film 64 = .ok (.getfield 12, 3) := by decide +kernel
theorem dX8_film_67 : decode cX8_film 67 = .ok (.iload 5, 2) := by decide +kernel
theorem dX8_film_69 : decode cX8_film 69 = .ok (.invokevirtual 90, 3) := by decide +kernel
theorem dX8_film_72 : decode cX8_film 72 = .ok (.invokevirtual 252, 3) := by decide +kernel
theorem dX8_film_75 : decode cX8_film 75 = .ok (.iinc 5 1, 3) := by decide +kernel
theorem dX8_film_78 : decode cX8_film 78 = .ok (.goto (-37), 3) := by decide +kernel
theorem dX8_film_81 : decode cX8_film 81 = .ok (.aload_n 0, 1) := by decide +kernel
theorem dX8_film_82 : decode cX8_film 82 = .ok (.getfield 12, 3) := by decide +kernel
theorem dX8_film_85 : decode cX8_film 85 = .ok (.getfield 55, 3) := by decide +kernel
theorem dX8_film_88 : decode cX8_film 88 = .ok (.ireturn, 1) := by decide +kernel
theorem dX8_isBelow_0 : decode cX8_isBelow 0 = .ok (.iload_n 0, 1) := by decide +kernel
theorem dX8_isBelow_1 : decode cX8_isBelow 1 = .ok (.ifCond .lt 12, 3) := by decide +kernel
theorem dX8_isBelow_4 : decode cX8_isBelow 4 = .ok (.iload_n 0, 1) := by decide +kernel
theorem dX8_isBelow_5 : decode cX8_isBelow 5 = .ok (.iload_n 1, 1) := by decide +kernel
theorem dX8_isBelow_6 : decode cX8_isBelow 6 = .ok (.if_icmp .ge 7, 3) := by decide +kernel
theorem dX8_isBelow_9 : decode cX8_isBelow 9 = .ok (.iconst 1, 1) := by decide +kernel
theorem dX8_isBelow_10 : decode cX8_isBelow 10 = .ok (.goto 4, 3) := by decide +kernel
theorem dX8_isBelow_13 : decode cX8_isBelow 13 = .ok (.iconst 0, 1) := by decide +kernel
theorem dX8_isBelow_14 : decode cX8_isBelow 14 = .ok (.ireturn, 1) := by decide +kernel
theorem dX8_isStrip_0 : decode cX8_isStrip 0 = .ok (.iload_n 1, 1) := by decide +kernel
theorem dX8_isStrip_1 : decode cX8_isStrip 1 = .ok (.aload_n 0, 1) := by decide +kernel
theorem dX8_isStrip_2 : decode cX8_isStrip 2 = .ok (.getfield 12, 3) := by decide +kernel
theorem dX8_isStrip_5 : decode cX8_isStrip 5 = .ok (.getfield 55, 3) := by decide +kernel
theorem dX8_isStrip_8 : decode cX8_isStrip 8 = .ok (.invokestatic 51, 3) := by decide +kernel
theorem dX8_isStrip_11 : decode cX8_isStrip 11 = .ok (.ireturn, 1) := by decide +kernel
theorem dX8_isWord_0 : decode cX8_isWord 0 = .ok (.iload_n 1, 1) := by decide +kernel
theorem dX8_isWord_1 : decode cX8_isWord 1 = .ok (.aload_n 0, 1) := by decide +kernel
theorem dX8_isWord_2 : decode cX8_isWord 2 = .ok (.getfield 12, 3) := by decide +kernel
theorem dX8_isWord_5 : decode cX8_isWord 5 = .ok (.getfield 133, 3) := by decide +kernel
theorem dX8_isWord_8 : decode cX8_isWord 8 = .ok (.invokestatic 51, 3) := by decide +kernel
theorem dX8_isWord_11 : decode cX8_isWord 11 = .ok (.ireturn, 1) := by decide +kernel
theorem dX8_isRowPlace_0 : decode cX8_isRowPlace 0 = .ok (.iload_n 0, 1) := by decide +kernel
theorem dX8_isRowPlace_1 : decode cX8_isRowPlace 1 = .ok (.bipush (-2), 2) := by decide +kernel
theorem dX8_isRowPlace_3 : decode cX8_isRowPlace 3 = .ok (.if_icmp .lt 13, 3) := by decide +kernel
theorem dX8_isRowPlace_6 : decode cX8_isRowPlace 6 = .ok (.iload_n 0, 1) := by decide +kernel
theorem dX8_isRowPlace_7 : decode cX8_isRowPlace 7 = .ok (.bipush 9, 2) := by decide +kernel
theorem dX8_isRowPlace_9 : decode cX8_isRowPlace 9 = .ok (.if_icmp .ge 7, 3) := by decide +kernel
theorem dX8_isRowPlace_12 : decode cX8_isRowPlace 12 = .ok (.iconst 1, 1) := by decide +kernel
theorem dX8_isRowPlace_13 : decode cX8_isRowPlace 13 = .ok (.goto 4, 3) := by decide +kernel
theorem dX8_isRowPlace_16 : decode cX8_isRowPlace 16 = .ok (.iconst 0, 1) := by decide +kernel
theorem dX8_isRowPlace_17 : decode cX8_isRowPlace 17 = .ok (.ireturn, 1) := by decide +kernel
theorem dX8_isSheet_0 : decode cX8_isSheet 0 = .ok (.iload_n 0, 1) := by decide +kernel
theorem dX8_isSheet_1 : decode cX8_isSheet 1 = .ok (.iconst 4, 1) := by decide +kernel
theorem dX8_isSheet_2 : decode cX8_isSheet 2 = .ok (.invokestatic 51, 3) := by decide +kernel
theorem dX8_isSheet_5 : decode cX8_isSheet 5 = .ok (.ifCond .eq 15, 3) := by decide +kernel
theorem dX8_isSheet_8 : decode cX8_isSheet 8 = .ok (.iload_n 1, 1) := by decide +kernel
theorem dX8_isSheet_9 : decode cX8_isSheet 9 = .ok (.iconst 3, 1) := by decide +kernel
theorem dX8_isSheet_10 : decode cX8_isSheet 10 = .ok (.invokestatic 51, 3) := by decide +kernel
theorem dX8_isSheet_13 : decode cX8_isSheet 13 = .ok (.ifCond .eq 7, 3) := by decide +kernel
theorem dX8_isSheet_16 : decode cX8_isSheet 16 = .ok (.iconst 1, 1) := by decide +kernel
theorem dX8_isSheet_17 : decode cX8_isSheet 17 = .ok (.goto 4, 3) := by decide +kernel
theorem dX8_isSheet_20 : decode cX8_isSheet 20 = .ok (.iconst 0, 1) := by decide +kernel
theorem dX8_isSheet_21 : decode cX8_isSheet 21 = .ok (.ireturn, 1) := by decide +kernel
theorem dX8_closestKey_0 : decode cX8_closestKey 0 = .ok (.sipush 512, 3) := by decide +kernel
theorem dX8_closestKey_3 : decode cX8_closestKey 3 = .ok (.istore_n 1, 1) := by decide +kernel
theorem dX8_closestKey_4 : decode cX8_closestKey 4 = .ok (.iconst 0, 1) := by decide +kernel
theorem dX8_closestKey_5 : decode cX8_closestKey 5 = .ok (.istore_n 2, 1) := by decide +kernel
theorem dX8_closestKey_6 : decode cX8_closestKey 6 = .ok (.iload_n 2, 1) := by decide +kernel
theorem dX8_closestKey_7 : decode cX8_closestKey 7 = .ok (.bipush 26, 2) := by decide +kernel
theorem dX8_closestKey_9 : decode cX8_closestKey 9 = .ok (.if_icmp .ge 29, 3) := by decide +kernel
theorem dX8_closestKey_12 : decode cX8_closestKey 12 = .ok (.iload_n 1, 1) := by decide +kernel
theorem dX8_closestKey_13 : decode cX8_closestKey 13 = .ok (.bipush 32, 2) := by decide +kernel
theorem dX8_closestKey_15 : decode cX8_closestKey 15 = .ok (.iload_n 0, 1) := by decide +kernel
theorem dX8_closestKey_16 : decode cX8_closestKey 16 = .ok (.getstatic 83, 3) := by decide +kernel
theorem dX8_closestKey_19 : decode cX8_closestKey 19 = .ok (.iload_n 2, 1) := by decide +kernel
theorem dX8_closestKey_20 : decode cX8_closestKey 20 = .ok (.iaload, 1) := by decide +kernel
theorem dX8_closestKey_21 : decode cX8_closestKey 21 = .ok (.ixor, 1) := by decide +kernel
theorem dX8_closestKey_22 : decode cX8_closestKey 22 = .ok (.invokestatic 217, 3) := by decide +kernel
theorem dX8_closestKey_25 : decode cX8_closestKey 25 = .ok (.imul, 1) := by decide +kernel
theorem dX8_closestKey_26 : decode cX8_closestKey 26 = .ok (.iload_n 2, 1) := by decide +kernel
theorem dX8_closestKey_27 : decode cX8_closestKey 27 = .ok (.iadd, 1) := by decide +kernel
theorem dX8_closestKey_28 : decode cX8_closestKey 28 = .ok (.invokestatic 255, 3) := by decide +kernel
theorem dX8_closestKey_31 : decode cX8_closestKey 31 = .ok (.istore_n 1, 1) := by decide +kernel
theorem dX8_closestKey_32 : decode cX8_closestKey 32 = .ok (.iinc 2 1, 3) := by decide +kernel
theorem dX8_closestKey_35 : decode cX8_closestKey 35 = .ok (.goto (-29), 3) := by decide +kernel
theorem dX8_closestKey_38 : decode cX8_closestKey 38 = .ok (.iload_n 1, 1) := by decide +kernel
theorem dX8_closestKey_39 : decode cX8_closestKey 39 = .ok (.ireturn, 1) := by decide +kernel
theorem dX9_init_0 : decode cX9_init 0 = .ok (.aload_n 0, 1) := by decide +kernel
theorem dX9_init_1 : decode cX9_init 1 = .ok (.invokespecial 1, 3) := by decide +kernel
theorem dX9_init_4 : decode cX9_init 4 = .ok (.aload_n 0, 1) := by decide +kernel
theorem dX9_init_5 : decode cX9_init 5 = .ok (.bipush 26, 2) := by decide +kernel
theorem dX9_init_7 : decode cX9_init 7 = .ok (.newarray .int, 2) := by decide +kernel
theorem dX9_init_9 : decode cX9_init 9 = .ok (.dup, 1) := by decide +kernel
theorem dX9_init_10 : decode cX9_init 10 = .ok (.iconst 0, 1) := by decide +kernel
theorem dX9_init_11 : decode cX9_init 11 = .ok (.sipush 23530, 3) := by decide +kernel
theorem dX9_init_14 : decode cX9_init 14 = .ok (.iastore, 1) := by decide +kernel
theorem dX9_init_15 : decode cX9_init 15 = .ok (.dup, 1) := by decide +kernel
theorem dX9_init_16 : decode cX9_init 16 = .ok (.iconst 1, 1) := by decide +kernel
theorem dX9_init_17 : decode cX9_init 17 = .ok (.sipush 15083, 3) := by decide +kernel
theorem dX9_init_20 : decode cX9_init 20 = .ok (.iastore, 1) := by decide +kernel
theorem dX9_init_21 : decode cX9_init 21 = .ok (.dup, 1) := by decide +kernel
theorem dX9_init_22 : decode cX9_init 22 = .ok (.iconst 2, 1) := by decide +kernel
theorem dX9_init_23 : decode cX9_init 23 = .ok (.sipush 25166, 3) := by decide +kernel
theorem dX9_init_26 : decode cX9_init 26 = .ok (.iastore, 1) := by decide +kernel
theorem dX9_init_27 : decode cX9_init 27 = .ok (.dup, 1) := by decide +kernel
theorem dX9_init_28 : decode cX9_init 28 = .ok (.iconst 3, 1) := by decide +kernel
theorem dX9_init_29 : decode cX9_init 29 = .ok (.sipush 15211, 3) := by decide +kernel
theorem dX9_init_32 : decode cX9_init 32 = .ok (.iastore, 1) := by decide +kernel
theorem dX9_init_33 : decode cX9_init 33 = .ok (.dup, 1) := by decide +kernel
theorem dX9_init_34 : decode cX9_init 34 = .ok (.iconst 4, 1) := by decide +kernel
theorem dX9_init_35 : decode cX9_init 35 = .ok (.sipush 29391, 3) := by decide +kernel
theorem dX9_init_38 : decode cX9_init 38 = .ok (.iastore, 1) := by decide +kernel
theorem dX9_init_39 : decode cX9_init 39 = .ok (.dup, 1) := by decide +kernel
theorem dX9_init_40 : decode cX9_init 40 = .ok (.iconst 5, 1) := by decide +kernel
theorem dX9_init_41 : decode cX9_init 41 = .ok (.sipush 4815, 3) := by decide +kernel
theorem dX9_init_44 : decode cX9_init 44 = .ok (.iastore, 1) := by decide +kernel
theorem dX9_init_45 : decode cX9_init 45 = .ok (.dup, 1) := by decide +kernel
theorem dX9_init_46 : decode cX9_init 46 = .ok (.bipush 6, 2) := by decide +kernel
theorem dX9_init_48 : decode cX9_init 48 = .ok (.sipush 27470, 3) := by decide +kernel
theorem dX9_init_51 : decode cX9_init 51 = .ok (.iastore, 1) := by decide +kernel
theorem dX9_init_52 : decode cX9_init 52 = .ok (.dup, 1) := by decide +kernel
theorem dX9_init_53 : decode cX9_init 53 = .ok (.bipush 7, 2) := by decide +kernel
theorem dX9_init_55 : decode cX9_init 55 = .ok (.sipush 23533, 3) := by decide +kernel
theorem dX9_init_58 : decode cX9_init 58 = .ok (.iastore, 1) := by decide +kernel
theorem dX9_init_59 : decode cX9_init 59 = .ok (.dup, 1) := by decide +kernel
theorem dX9_init_60 : decode cX9_init 60 = .ok (.bipush 8, 2) := by decide +kernel
theorem dX9_init_62 : decode cX9_init 62 = .ok (.sipush 29847, 3) := by decide +kernel
theorem dX9_init_65 : decode cX9_init 65 = .ok (.iastore, 1) := by decide +kernel
theorem dX9_init_66 : decode cX9_init 66 = .ok (.dup, 1) := by decide +kernel
theorem dX9_init_67 : decode cX9_init 67 = .ok (.bipush 9, 2) := by decide +kernel
theorem dX9_init_69 : decode cX9_init 69 = .ok (.sipush 11044, 3) := by decide +kernel
theorem dX9_init_72 : decode cX9_init 72 = .ok (.iastore, 1) := by decide +kernel
theorem dX9_init_73 : decode cX9_init 73 = .ok (.dup, 1) := by decide +kernel
theorem dX9_init_74 : decode cX9_init 74 = .ok (.bipush 10, 2) := by decide +kernel
theorem dX9_init_76 : decode cX9_init 76 = .ok (.sipush 23277, 3) := by decide +kernel
theorem dX9_init_79 : decode cX9_init 79 = .ok (.iastore, 1) := by decide +kernel
theorem dX9_init_80 : decode cX9_init 80 = .ok (.dup, 1) := by decide +kernel
theorem dX9_init_81 : decode cX9_init 81 = .ok (.bipush 11, 2) := by decide +kernel
theorem dX9_init_83 : decode cX9_init 83 = .ok (.sipush 31305, 3) := by decide +kernel
theorem dX9_init_86 : decode cX9_init 86 = .ok (.iastore, 1) := by decide +kernel
theorem dX9_init_87 : decode cX9_init 87 = .ok (.dup, 1) := by decide +kernel
theorem dX9_init_88 : decode cX9_init 88 = .ok (.bipush 12, 2) := by decide +kernel
theorem dX9_init_90 : decode cX9_init 90 = .ok (.sipush 23549, 3) := by decide +kernel
theorem dX9_init_93 : decode cX9_init 93 = .ok (.iastore, 1) := by decide +kernel
theorem dX9_init_94 : decode cX9_init 94 = .ok (.dup, 1) := by decide +kernel
theorem dX9_init_95 : decode cX9_init 95 = .ok (.bipush 13, 2) := by decide +kernel
theorem dX9_init_97 : decode cX9_init 97 = .ok (.sipush 23547, 3) := by decide +kernel
theorem dX9_init_100 : decode cX9_init 100 = .ok (.iastore, 1) := by decide +kernel
theorem dX9_init_101 : decode cX9_init 101 = .ok (.dup, 1) := by decide +kernel
theorem dX9_init_102 : decode cX9_init 102 = .ok (.bipush 14, 2) := by decide +kernel
theorem dX9_init_104 : decode cX9_init 104 = .ok (.sipush 11114, 3) := by decide +kernel
theorem dX9_init_107 : decode cX9_init 107 = .ok (.iastore, 1) := by decide +kernel
theorem dX9_init_108 : decode cX9_init 108 = .ok (.dup, 1) := by decide +kernel
theorem dX9_init_109 : decode cX9_init 109 = .ok (.bipush 15, 2) := by decide +kernel
theorem dX9_init_111 : decode cX9_init 111 = .ok (.sipush 5099, 3) := by decide +kernel
theorem dX9_init_114 : decode cX9_init 114 = .ok (.iastore, 1) := by decide +kernel
theorem dX9_init_115 : decode cX9_init 115 = .ok (.dup, 1) := by decide +kernel
theorem dX9_init_116 : decode cX9_init 116 = .ok (.bipush 16, 2) := by decide +kernel
theorem dX9_init_118 : decode cX9_init 118 = .ok (.sipush 26474, 3) := by decide +kernel
theorem dX9_init_121 : decode cX9_init 121 = .ok (.iastore, 1) := by decide +kernel
theorem dX9_init_122 : decode cX9_init 122 = .ok (.dup, 1) := by decide +kernel
theorem dX9_init_123 : decode cX9_init 123 = .ok (.bipush 17, 2) := by decide +kernel
theorem dX9_init_125 : decode cX9_init 125 = .ok (.sipush 22379, 3) := by decide +kernel
theorem dX9_init_128 : decode cX9_init 128 = .ok (.iastore, 1) := by decide +kernel
theorem dX9_init_129 : decode cX9_init 129 = .ok (.dup, 1) := by decide +kernel
theorem dX9_init_130 : decode cX9_init 130 = .ok (.bipush 18, 2) := by decide +kernel
theorem dX9_init_132 : decode cX9_init 132 = .ok (.sipush 14478, 3) := by decide +kernel
theorem dX9_init_135 : decode cX9_init 135 = .ok (.iastore, 1) := by decide +kernel
theorem dX9_init_136 : decode cX9_init 136 = .ok (.dup, 1) := by decide +kernel
theorem dX9_init_137 : decode cX9_init 137 = .ok (.bipush 19, 2) := by decide +kernel
theorem dX9_init_139 : decode cX9_init 139 = .ok (.sipush 9367, 3) := by decide +kernel
theorem dX9_init_142 : decode cX9_init 142 = .ok (.iastore, 1) := by decide +kernel
theorem dX9_init_143 : decode cX9_init 143 = .ok (.dup, 1) := by decide +kernel
theorem dX9_init_144 : decode cX9_init 144 = .ok (.bipush 20, 2) := by decide +kernel
theorem dX9_init_146 : decode cX9_init 146 = .ok (.sipush 27501, 3) := by decide +kernel
theorem dX9_init_149 : decode cX9_init 149 = .ok (.iastore, 1) := by decide +kernel
theorem dX9_init_150 : decode cX9_init 150 = .ok (.dup, 1) := by decide +kernel
theorem dX9_init_151 : decode cX9_init 151 = .ok (.bipush 21, 2) := by decide +kernel
theorem dX9_init_153 : decode cX9_init 153 = .ok (.sipush 11117, 3) := by decide +kernel
theorem dX9_init_156 : decode cX9_init 156 = .ok (.iastore, 1) := by decide +kernel
theorem dX9_init_157 : decode cX9_init 157 = .ok (.dup, 1) := by decide +kernel
theorem dX9_init_158 : decode cX9_init 158 = .ok (.bipush 22, 2) := by decide +kernel
theorem dX9_init_160 : decode cX9_init 160 = .ok (.sipush 24557, 3) := by decide +kernel
theorem dX9_init_163 : decode cX9_init 163 = .ok (.iastore, 1) := by decide +kernel
theorem dX9_init_164 : decode cX9_init 164 = .ok (.dup, 1) := by decide +kernel
theorem dX9_init_165 : decode cX9_init 165 = .ok (.bipush 23, 2) := by decide +kernel
theorem dX9_init_167 : decode cX9_init 167 = .ok (.sipush 23213, 3) := by decide +kernel
theorem dX9_init_170 : decode cX9_init 170 = .ok (.iastore, 1) := by decide +kernel
theorem dX9_init_171 : decode cX9_init 171 = .ok (.dup, 1) := by decide +kernel
theorem dX9_init_172 : decode cX9_init 172 = .ok (.bipush 24, 2) := by decide +kernel
theorem dX9_init_174 : decode cX9_init 174 = .ok (.sipush 9389, 3) := by decide +kernel
theorem dX9_init_177 : decode cX9_init 177 = .ok (.iastore, 1) := by decide +kernel
theorem dX9_init_178 : decode cX9_init 178 = .ok (.dup, 1) := by decide +kernel
theorem dX9_init_179 : decode cX9_init 179 = .ok (.bipush 25, 2) := by decide +kernel
theorem dX9_init_181 : decode cX9_init 181 = .ok (.sipush 29351, 3) := by decide +kernel
theorem dX9_init_184 : decode cX9_init 184 = .ok (.iastore, 1) := by decide +kernel
theorem dX9_init_185 : decode cX9_init 185 = .ok (.putfield 7, 3) := by decide +kernel
theorem dX9_init_188 : decode cX9_init 188 = .ok (.aload_n 0, 1) := by decide +kernel
theorem dX9_init_189 : decode cX9_init 189 = .ok (.bipush 9, 2) := by decide +kernel
theorem dX9_init_191 : decode cX9_init 191 = .ok (.newarray .int, 2) := by decide +kernel
theorem dX9_init_193 : decode cX9_init 193 = .ok (.putfield 13, 3) := by decide +kernel
theorem dX9_init_196 : decode cX9_init 196 = .ok (.aload_n 0, 1) := by decide +kernel
theorem dX9_init_197 : decode cX9_init 197 = .ok (.sipush 135, 3) := by decide +kernel
theorem dX9_init_200 : decode cX9_init 200 = .ok (.newarray .int, 2) := by decide +kernel
theorem dX9_init_202 : decode cX9_init 202 = .ok (.putfield 16, 3) := by decide +kernel
theorem dX9_init_205 : decode cX9_init 205 = .ok (.aload_n 0, 1) := by decide +kernel
theorem dX9_init_206 : decode cX9_init 206 = .ok (.bipush 6, 2) := by decide +kernel
theorem dX9_init_208 : decode cX9_init 208 = .ok (.newarray .int, 2) := by decide +kernel
theorem dX9_init_210 : decode cX9_init 210 = .ok (.putfield 19, 3) := by decide +kernel
theorem dX9_init_213 : decode cX9_init 213 = .ok (.aload_n 0, 1) := by decide +kernel
theorem dX9_init_214 : decode cX9_init 214 = .ok (.iconst 4, 1) := by decide +kernel
theorem dX9_init_215 : decode cX9_init 215 = .ok (.newarray .int, 2) := by decide +kernel
theorem dX9_init_217 : decode cX9_init 217 = .ok (.putfield 22, 3) := by decide +kernel
theorem dX9_init_220 : decode cX9_init 220 = .ok (.aload_n 0, 1) := by decide +kernel
theorem dX9_init_221 : decode cX9_init 221 = .ok (.bipush 36, 2) := by decide +kernel
theorem dX9_init_223 : decode cX9_init 223 = .ok (.newarray .int, 2) := by decide +kernel
theorem dX9_init_225 : decode cX9_init 225 = .ok (.putfield 25, 3) := by decide +kernel
theorem dX9_init_228 : decode cX9_init 228 = .ok (.aload_n 0, 1) := by decide +kernel
theorem dX9_init_229 : decode cX9_init 229 = .ok (.bipush 80, 2) := by decide +kernel
theorem dX9_init_231 : decode cX9_init 231 = .ok (.newarray .int, 2) := by decide +kernel
theorem dX9_init_233 : decode cX9_init 233 = .ok (.putfield 28, 3) := by decide +kernel
theorem dX9_init_236 : decode cX9_init 236 = .ok (.aload_n 0, 1) := by decide +kernel
theorem dX9_init_237 : decode cX9_init 237 = .ok (.bipush 80, 2) := by decide +kernel
theorem dX9_init_239 : decode cX9_init 239 = .ok (.newarray .int, 2) := by decide +kernel
theorem dX9_init_241 : decode cX9_init 241 = .ok (.putfield 31, 3) := by decide +kernel
theorem dX9_init_244 : decode cX9_init 244 = .ok (.aload_n 0, 1) := by decide +kernel
theorem dX9_init_245 : decode cX9_init 245 = .ok (.bipush 40, 2) := by decide +kernel
theorem dX9_init_247 : decode cX9_init 247 = .ok (.newarray .int, 2) := by decide +kernel
theorem dX9_init_249 : decode cX9_init 249 = .ok (.putfield 34, 3) := by decide +kernel
theorem dX9_init_252 : decode cX9_init 252 = .ok (.aload_n 0, 1) := by decide +kernel
theorem dX9_init_253 : decode cX9_init 253 = .ok (.bipush 10, 2) := by decide +kernel
theorem dX9_init_255 : decode cX9_init 255 = .ok (.newarray .int, 2) := by decide +kernel
theorem dX9_init_257 : decode cX9_init 257 = .ok (.putfield 37, 3) := by decide +kernel
theorem dX9_init_260 : decode cX9_init 260 = .ok (.aload_n 0, 1) := by decide +kernel
theorem dX9_init_261 : decode cX9_init 261 = .ok (.bipush 9, 2) := by decide +kernel
theorem dX9_init_263 : decode cX9_init 263 = .ok (.newarray .int, 2) := by decide +kernel
theorem dX9_init_265 : decode cX9_init 265 = .ok (.putfield 40, 3) := by decide +kernel
theorem dX9_init_268 : decode cX9_init 268 = .ok (.aload_n 0, 1) := by decide +kernel
theorem dX9_init_269 : decode cX9_init 269 = .ok (.bipush 90, 2) := by decide +kernel
theorem dX9_init_271 : decode cX9_init 271 = .ok (.newarray .int, 2) := by decide +kernel
theorem dX9_init_273 : decode cX9_init 273 = .ok (.putfield 43, 3) := by decide +kernel
theorem dX9_init_276 : decode cX9_init 276 = .ok (.aload_n 0, 1) := by decide +kernel
theorem dX9_init_277 : decode cX9_init 277 = .ok (.bipush 90, 2) := by decide +kernel
theorem dX9_init_279 : decode cX9_init 279 = .ok (.newarray .int, 2) := by decide +kernel
theorem dX9_init_281 : decode cX9_init 281 = .ok (.putfield 46, 3) := by decide +kernel
theorem dX9_init_284 : decode cX9_init 284 = .ok (.aload_n 0, 1) := by decide +kernel
theorem dX9_init_285 : decode cX9_init 285 = .ok (.bipush 26, 2) := by decide +kernel
theorem dX9_init_287 : decode cX9_init 287 = .ok (.newarray .long, 2) := by decide +kernel
theorem dX9_init_289 : decode cX9_init 289 = .ok (.putfield 49, 3) := by decide +kernel
theorem dX9_init_292 : decode cX9_init 292 = .ok (.aload_n 0, 1) := by decide +kernel
theorem dX9_init_293 : decode cX9_init 293 = .ok (.sipush 135, 3) := by decide +kernel
theorem dX9_init_296 : decode cX9_init 296 = .ok (.newarray .int, 2) := by decide +kernel
theorem dX9_init_298 : decode cX9_init 298 = .ok (.putfield 53, 3) := by decide +kernel
theorem dX9_init_301 : decode cX9_init 301 = .ok (.aload_n 0, 1) := by decide +kernel
theorem dX9_init_302 : decode cX9_init 302 = .ok (.sipush 270, 3) := by decide +kernel
theorem dX9_init_305 : decode cX9_init 305 = .ok (.newarray .int, 2) := by decide +kernel
theorem dX9_init_307 : decode cX9_init 307 = .ok (.putfield 56, 3) := by decide +kernel
theorem dX9_init_310 : decode cX9_init 310 = .ok (.aload_n 0, 1) := by decide +kernel
theorem dX9_init_311 : decode cX9_init 311 = .ok (.iconst 2, 1) := by decide +kernel
theorem dX9_init_312 : decode cX9_init 312 = .ok (.newarray .int, 2) := by decide +kernel
theorem dX9_init_314 : decode cX9_init 314 = .ok (.putfield 59, 3) := by decide +kernel
theorem dX9_init_317 : decode cX9_init 317 = .ok (.aload_n 0, 1) := by decide +kernel
theorem dX9_init_318 : decode cX9_init 318 = .ok (.iconst 4, 1) := by decide +kernel
theorem dX9_init_319 : decode cX9_init 319 = .ok (.newarray .int, 2) := by decide +kernel
theorem dX9_init_321 : decode cX9_init 321 = .ok (.putfield 62, 3) := by decide +kernel
theorem dX9_init_324 : decode cX9_init 324 = .ok (.aload_n 0, 1) := by decide +kernel
theorem dX9_init_325 : decode cX9_init 325 = .ok (.iconst 4, 1) := by decide +kernel
theorem dX9_init_326 : decode cX9_init 326 = .ok (.newarray .int, 2) := by decide +kernel
theorem dX9_init_328 : decode cX9_init 328 = .ok (.putfield 65, 3) := by decide +kernel
theorem dX9_init_331 : decode cX9_init 331 = .ok (.aload_n 0, 1) := by decide +kernel
theorem dX9_init_332 : decode cX9_init 332 = .ok (.bipush 96, 2) := by decide +kernel
theorem dX9_init_334 : decode cX9_init 334 = .ok (.newarray .int, 2) := by decide +kernel
theorem dX9_init_336 : decode cX9_init 336 = .ok (.putfield 68, 3) := by decide +kernel
theorem dX9_init_339 : decode cX9_init 339 = .ok (.iconst 0, 1) := by decide +kernel
theorem dX9_init_340 : decode cX9_init 340 = .ok (.istore_n 1, 1) := by decide +kernel
theorem dX9_init_341 : decode cX9_init 341 = .ok (.iload_n 1, 1) := by decide +kernel
theorem dX9_init_342 : decode cX9_init 342 = .ok (.iconst 4, 1) := by decide +kernel
theorem dX9_init_343 : decode cX9_init 343 = .ok (.if_icmp .ge 16, 3) := by decide +kernel
theorem dX9_init_346 : decode cX9_init 346 = .ok (.aload_n 0, 1) := by decide +kernel
theorem dX9_init_347 : decode cX9_init 347 = .ok (.getfield 62, 3) := by decide +kernel
theorem dX9_init_350 : decode cX9_init 350 = .ok (.iload_n 1, 1) := by decide +kernel
theorem dX9_init_351 : decode cX9_init 351 = .ok (.iconst (-1), 1) := by decide +kernel
theorem dX9_init_352 : decode cX9_init 352 = .ok (.iastore, 1) := by decide +kernel
theorem dX9_init_353 : decode cX9_init 353 = .ok (.iinc 1 1, 3) := by decide +kernel
theorem dX9_init_356 : decode cX9_init 356 = .ok (.goto (-15), 3) := by decide +kernel
theorem dX9_init_359 : decode cX9_init 359 = .ok (.aload_n 0, 1) := by decide +kernel
theorem dX9_init_360 : decode cX9_init 360 = .ok (.getfield 22, 3) := by decide +kernel
theorem dX9_init_363 : decode cX9_init 363 = .ok (.iconst 0, 1) := by decide +kernel
theorem dX9_init_364 : decode cX9_init 364 = .ok (.iconst 2, 1) := by decide +kernel
theorem dX9_init_365 : decode cX9_init 365 = .ok (.iastore, 1) := by decide +kernel
theorem dX9_init_366 : decode cX9_init 366 = .ok (.aload_n 0, 1) := by decide +kernel
theorem dX9_init_367 : decode cX9_init 367 = .ok (.getfield 22, 3) := by decide +kernel
theorem dX9_init_370 : decode cX9_init 370 = .ok (.iconst 1, 1) := by decide +kernel
theorem dX9_init_371 : decode cX9_init 371 = .ok (.iconst 2, 1) := by decide +kernel
theorem dX9_init_372 : decode cX9_init 372 = .ok (.iastore, 1) := by decide +kernel
theorem dX9_init_373 : decode cX9_init 373 = .ok (.aload_n 0, 1) := by decide +kernel
theorem dX9_init_374 : decode cX9_init 374 = .ok (.getfield 22, 3) := by decide +kernel
theorem dX9_init_377 : decode cX9_init 377 = .ok (.iconst 2, 1) := by decide +kernel
theorem dX9_init_378 : decode cX9_init 378 = .ok (.iconst 3, 1) := by decide +kernel
theorem dX9_init_379 : decode cX9_init 379 = .ok (.iastore, 1) := by decide +kernel
theorem dX9_init_380 : decode cX9_init 380 = .ok (.aload_n 0, 1) := by decide +kernel
theorem dX9_init_381 : decode cX9_init 381 = .ok (.getfield 22, 3) := by decide +kernel
theorem dX9_init_384 : decode cX9_init 384 = .ok (.iconst 3, 1) := by decide +kernel
theorem dX9_init_385 : decode cX9_init 385 = .ok (.iconst 1, 1) := by decide +kernel
theorem dX9_init_386 : decode cX9_init 386 = .ok (.iastore, 1) := by decide +kernel
theorem dX9_init_387 : decode cX9_init 387 = .ok (.return_, 1) := by decide +kernel
theorem dX9_in_0 : decode cX9_in 0 = .ok (.lload_n 0, 1) := by decide +kernel
theorem dX9_in_1 : decode cX9_in 1 = .ok (.lload_n 2, 1) := by decide +kernel
theorem dX9_in_2 : decode cX9_in 2 = .ok (.lcmp, 1) := by decide +kernel
theorem dX9_in_3 : decode cX9_in 3 = .ok (.ifCond .lt 14, 3) := by decide +kernel
theorem dX9_in_6 : decode cX9_in 6 = .ok (.lload_n 0, 1) := by decide +kernel
theorem dX9_in_7 : decode cX9_in 7 = .ok (.lload 4, 2) := by decide +kernel
theorem dX9_in_9 : decode cX9_in 9 = .ok (.lcmp, 1) := by decide +kernel
theorem dX9_in_10 : decode cX9_in 10 = .ok (.ifCond .gt 7, 3) := by decide +kernel
theorem dX9_in_13 : decode cX9_in 13 = .ok (.iconst 1, 1) := by decide +kernel
theorem dX9_in_14 : decode cX9_in 14 = .ok (.goto 4, 3) := by decide +kernel
theorem dX9_in_17 : decode cX9_in 17 = .ok (.iconst 0, 1) := by decide +kernel
theorem dX9_in_18 : decode cX9_in 18 = .ok (.ireturn, 1) := by decide +kernel
theorem dX9_has_0 : decode cX9_has 0 = .ok (.iload_n 0, 1) := by decide +kernel
theorem dX9_has_1 : decode cX9_has 1 = .ok (.iload_n 1, 1) := by decide +kernel
theorem dX9_has_2 : decode cX9_has 2 = .ok (.ishr, 1) := by decide +kernel
theorem dX9_has_3 : decode cX9_has 3 = .ok (.iconst 1, 1) := by decide +kernel
theorem dX9_has_4 : decode cX9_has 4 = .ok (.iand, 1) := by decide +kernel
theorem dX9_has_5 : decode cX9_has 5 = .ok (.iconst 1, 1) := by decide +kernel
theorem dX9_has_6 : decode cX9_has 6 = .ok (.if_icmp .ne 7, 3) := by decide +kernel
theorem dX9_has_9 : decode cX9_has 9 = .ok (.iconst 1, 1) := by decide +kernel
theorem dX9_has_10 : decode cX9_has 10 = .ok (.goto 4, 3) := by decide +kernel
theorem dX9_has_13 : decode cX9_has 13 = .ok (.iconst 0, 1) := by decide +kernel
theorem dX9_has_14 : decode cX9_has 14 = .ok (.ireturn, 1) := by decide +kernel
theorem dX9_ones_0 : decode cX9_ones 0 = .ok (.iconst 0, 1) := by decide +kernel
theorem dX9_ones_1 : decode cX9_ones 1 = .ok (.istore_n 1, 1) := by decide +kernel
theorem dX9_ones_2 : decode cX9_ones 2 = .ok (.iload_n 0, 1) := by decide +kernel
theorem dX9_ones_3 : decode cX9_ones 3 = .ok (.istore_n 2, 1) := by decide +kernel
theorem dX9_ones_4 : decode cX9_ones 4 = .ok (.iload_n 2, 1) := by decide +kernel
theorem dX9_ones_5 : decode cX9_ones 5 = .ok (.ifCond .eq 15, 3) := by decide +kernel
theorem dX9_ones_8 : decode cX9_ones 8 = .ok (.iinc 1 1, 3) := by decide +kernel
theorem dX9_ones_11 : decode cX9_ones 11 = .ok (.iload_n 2, 1) := by decide +kernel
theorem dX9_ones_12 : decode cX9_ones 12 = .ok (.iload_n 2, 1) := by decide +kernel
theorem dX9_ones_13 : decode cX9_ones 13 = .ok (.iconst 1, 1) := by decide +kernel
theorem dX9_ones_14 : decode cX9_ones 14 = .ok (.isub, 1) := by decide +kernel
theorem dX9_ones_15 : decode cX9_ones 15 = .ok (.iand, 1) := by decide +kernel
theorem dX9_ones_16 : decode cX9_ones 16 = .ok (.istore_n 2, 1) := by decide +kernel
theorem dX9_ones_17 : decode cX9_ones 17 = .ok (.goto (-13), 3) := by decide +kernel
theorem dX9_ones_20 : decode cX9_ones 20 = .ok (.iload_n 1, 1) := by decide +kernel
theorem dX9_ones_21 : decode cX9_ones 21 = .ok (.ireturn, 1) := by decide +kernel
theorem dX9_isStrip_0 : decode cX9_isStrip 0 = .ok (.iload_n 1, 1) := by decide +kernel
theorem dX9_isStrip_1 : decode cX9_isStrip 1 = .ok (.i2l, 1) := by decide +kernel
theorem dX9_isStrip_2 : decode cX9_isStrip 2 = .ok (.lconst 0, 1) := by decide +kernel
theorem dX9_isStrip_3 : decode cX9_isStrip 3 = .ok (.aload_n 0, 1) := by decide +kernel
theorem dX9_isStrip_4 : decode cX9_isStrip 4 = .ok (.getfield 71, 3) := by decide +kernel
theorem dX9_isStrip_7 : decode cX9_isStrip 7 = .ok (.iconst 1, 1) := by decide +kernel
theorem dX9_isStrip_8 : decode cX9_isStrip 8 = .ok (.isub, 1) := by decide +kernel
theorem dX9_isStrip_9 : decode cX9_isStrip 9 = .ok (.i2l, 1) := by decide +kernel
theorem dX9_isStrip_10 : decode cX9_isStrip 10 = .ok (.invokestatic 75, 3) := by decide +kernel
theorem dX9_isStrip_13 : decode cX9_isStrip 13 = .ok (.ireturn, 1) := by decide +kernel
theorem dX9_isCell_0 : decode cX9_isCell 0 = .ok (.iload_n 0, 1) := by decide +kernel
theorem dX9_isCell_1 : decode cX9_isCell 1 = .ok (.i2l, 1) := by decide +kernel
theorem dX9_isCell_2 : decode cX9_isCell 2 = .ok (.lconst 0, 1) := by decide +kernel
theorem dX9_isCell_3 : decode cX9_isCell 3 = .ok (.ldc2_w 79, 3) := by decide +kernel
theorem dX9_isCell_6 : decode cX9_isCell 6 = .ok (.invokestatic 75, 3) := by decide +kernel
theorem dX9_isCell_9 : decode cX9_isCell 9 = .ok (.ireturn, 1) := by decide +kernel
theorem dX9_isLetter_0 : decode cX9_isLetter 0 = .ok (.iload_n 0, 1) := by decide +kernel
theorem dX9_isLetter_1 : decode cX9_isLetter 1 = .ok (.i2l, 1) := by decide +kernel
theorem dX9_isLetter_2 : decode cX9_isLetter 2 = .ok (.lconst 0, 1) := by decide +kernel
theorem dX9_isLetter_3 : decode cX9_isLetter 3 = .ok (.ldc2_w 81, 3) := by decide +kernel
theorem dX9_isLetter_6 : decode cX9_isLetter 6 = .ok (.invokestatic 75, 3) := by decide +kernel
theorem dX9_isLetter_9 : decode cX9_isLetter 9 = .ok (.ireturn, 1) := by decide +kernel
theorem dX9_isWord_0 : decode cX9_isWord 0 = .ok (.iload_n 1, 1) := by decide +kernel
theorem dX9_isWord_1 : decode cX9_isWord 1 = .ok (.i2l, 1) := by decide +kernel
theorem dX9_isWord_2 : decode cX9_isWord 2 = .ok (.lconst 0, 1) := by decide +kernel
theorem dX9_isWord_3 : decode cX9_isWord 3 = .ok (.aload_n 0, 1) := by decide +kernel
theorem dX9_isWord_4 : decode cX9_isWord 4 = .ok (.getfield 83, 3) := by decide +kernel
theorem dX9_isWord_7 : decode cX9_isWord 7 = .ok (.iconst 1, 1) := by decide +kernel
theorem dX9_isWord_8 : decode cX9_isWord 8 = .ok (.isub, 1) := by decide +kernel
theorem dX9_isWord_9 : decode cX9_isWord 9 = .ok (.i2l, 1) := by decide +kernel
theorem dX9_isWord_10 : decode cX9_isWord 10 = .ok (.invokestatic 75, 3) := by decide +kernel
theorem dX9_isWord_13 : decode cX9_isWord 13 = .ok (.ireturn, 1) := by decide +kernel
theorem dX9_addStrip_0 : decode cX9_addStrip 0 = .ok (.aload_n 0, 1) := by decide +kernel
theorem dX9_addStrip_1 : decode cX9_addStrip 1 = .ok (.getfield 13, 3) := by decide +kernel
theorem dX9_addStrip_4 : decode cX9_addStrip 4 = .ok (.aload_n 0, 1) := by decide +kernel
theorem dX9_addStrip_5 : decode cX9_addStrip 5 = .ok (.getfield 71, 3) := by decide +kernel
theorem dX9_addStrip_8 : decode cX9_addStrip 8 = .ok (.iload_n 1, 1) := by decide +kernel
theorem dX9_addStrip_9 : decode cX9_addStrip 9 = .ok (.iastore, 1) := by decide +kernel
theorem dX9_addStrip_10 : decode cX9_addStrip 10 = .ok (.iconst 0, 1) := by decide +kernel
theorem dX9_addStrip_11 : decode cX9_addStrip 11 = .ok (.istore_n 2, 1) := by decide +kernel
theorem dX9_addStrip_12 : decode cX9_addStrip 12 = .ok (.iload_n 2, 1) := by decide +kernel
theorem dX9_addStrip_13 : decode cX9_addStrip 13 = .ok (.bipush 15, 2) := by decide +kernel
theorem dX9_addStrip_15 : decode cX9_addStrip 15 = .ok (.if_icmp .ge 24, 3) := by decide +kernel
theorem dX9_addStrip_18 : decode cX9_addStrip 18 = .ok (.aload_n 0, 1) := by decide +kernel
theorem dX9_addStrip_19 : decode cX9_addStrip 19 = .ok (.getfield 16, 3) := by decide +kernel
theorem dX9_addStrip_22 : decode cX9_addStrip 22 = .ok (.bipush 15, 2) := by decide +kernel
theorem dX9_addStrip_24 : decode cX9_addStrip 24 = .ok (.aload_n 0, 1) := by decide +kernel
theorem dX9_addStrip_25 : decode cX9_addStrip 25 = .ok (.getfield 71, 3) := by decide +kernel
theorem dX9_addStrip_28 : decode cX9_addStrip 28 = .ok (.imul, 1) := by decide +kernel
theorem dX9_addStrip_29 : decode cX9_addStrip 29 = .ok (.iload_n 2, 1) := by decide +kernel
theorem dX9_addStrip_30 : decode cX9_addStrip 30 = .ok (.iadd, 1) := by decide +kernel
theorem dX9_addStrip_31 : decode cX9_addStrip 31 = .ok (.iconst 5, 1) := by decide +kernel
theorem dX9_addStrip_32 : decode cX9_addStrip 32 = .ok (.iastore, 1) := by decide +kernel
theorem dX9_addStrip_33 : decode cX9_addStrip 33 = .ok (.iinc 2 1, 3) := by decide +kernel
theorem dX9_addStrip_36 : decode cX9_addStrip 36 = .ok (.goto (-24), 3) := by decide +kernel
theorem dX9_addStrip_39 : decode cX9_addStrip 39 = .ok (.aload_n 0, 1) := by decide +kernel
theorem dX9_addStrip_40 : decode cX9_addStrip 40 = .ok (.dup, 1) := by decide +kernel
theorem dX9_addStrip_41 : decode cX9_addStrip 41 = .ok (.getfield 71, 3) := by decide +kernel
theorem dX9_addStrip_44 : decode cX9_addStrip 44 = .ok (.iconst 1, 1) := by decide +kernel
theorem dX9_addStrip_45 : decode cX9_addStrip 45 = .ok (.iadd, 1) := by decide +kernel
theorem dX9_addStrip_46 : decode cX9_addStrip 46 = .ok (.putfield 71, 3) := by decide +kernel
theorem dX9_addStrip_49 : decode cX9_addStrip 49 = .ok (.return_, 1) := by decide +kernel
theorem dX9_strip_0 : decode cX9_strip 0 = .ok (.iload_n 1, 1) := by decide +kernel
theorem dX9_strip_1 : decode cX9_strip 1 = .ok (.i2l, 1) := by decide +kernel
theorem dX9_strip_2 : decode cX9_strip 2 = .ok (.lconst 0, 1) := by decide +kernel
theorem dX9_strip_3 : decode cX9_strip 3 = .ok (.ldc2_w 86, 3) := by decide +kernel
theorem dX9_strip_6 : decode cX9_strip 6 = .ok (.invokestatic 75, 3) := by decide +kernel
theorem dX9_strip_9 : decode cX9_strip 9 = .ok (.ifCond .ne 5, 3) := by decide +kernel
theorem dX9_strip_12 : decode cX9_strip 12 = .ok (.iconst (-1), 1) := by decide +kernel
theorem dX9_strip_13 : decode cX9_strip 13 = .ok (.ireturn, 1) := by decide +kernel
theorem dX9_strip_14 : decode cX9_strip 14 = .ok (.aload_n 0, 1) := by decide +kernel
theorem dX9_strip_15 : decode cX9_strip 15 = .ok (.getfield 71, 3) := by decide +kernel
theorem dX9_strip_18 : decode cX9_strip 18 = .ok (.bipush 9, 2) := by decide +kernel
theorem dX9_strip_20 : decode cX9_strip 20 = .ok (.if_icmp .ne 6, 3) := by decide +kernel
theorem dX9_strip_23 : decode cX9_strip 23 = .ok (.bipush (-3), 2) := by decide +kernel
theorem dX9_strip_25 : decode cX9_strip 25 = .ok (.ireturn, 1) := by decide +kernel
theorem dX9_strip_26 : decode cX9_strip 26 = .ok (.aload_n 0, 1) := by decide +kernel
theorem dX9_strip_27 : decode cX9_strip 27 = .ok (.iload_n 1, 1) := by decide +kernel
theorem dX9_strip_28 : decode cX9_strip 28 = .ok (.invokevirtual 88, 3) := by decide +kernel
theorem dX9_strip_31 : decode cX9_strip 31 = .ok (.aload_n 0, 1) := by decide +kernel
theorem dX9_strip_32 : decode cX9_strip 32 = .ok (.getfield 71, 3) := by decide +kernel
theorem dX9_strip_35 : decode cX9_strip 35 = .ok (.iconst 1, 1) := by decide +kernel
theorem dX9_strip_36 : decode cX9_strip 36 = .ok (.isub, 1) := by decide +kernel
theorem dX9_strip_37 : decode cX9_strip 37 = .ok (.ireturn, 1) := by decide +kernel
theorem dX9_set_0 : decode cX9_set 0 = .ok (.iload_n 1, 1) := by decide +kernel
theorem dX9_set_1 : decode cX9_set 1 = .ok (.ifCond .ne 7, 3) := by decide +kernel
theorem dX9_set_4 : decode cX9_set 4 = .ok (.iconst 5, 1) := by decide +kernel
theorem dX9_set_5 : decode cX9_set 5 = .ok (.goto 25, 3) := by decide +kernel
theorem dX9_set_8 : decode cX9_set 8 = .ok (.iload_n 1, 1) := by decide +kernel
theorem dX9_set_9 : decode cX9_set 9 = .ok (.iconst 1, 1) := by decide +kernel
theorem dX9_set_10 : decode cX9_set 10 = .ok (.if_icmp .ne 8, 3) := by decide +kernel
theorem dX9_set_13 : decode cX9_set 13 = .ok (.bipush 8, 2) := by decide +kernel
theorem dX9_set_15 : decode cX9_set 15 = .ok (.goto 15, 3) := by decide +kernel
theorem dX9_set_18 : decode cX9_set 18 = .ok (.iload_n 1, 1) := by decide +kernel
theorem dX9_set_19 : decode cX9_set 19 = .ok (.iconst 2, 1) := by decide +kernel
theorem dX9_set_20 : decode cX9_set 20 = .ok (.if_icmp .ne 8, 3) := by decide +kernel
theorem dX9_set_23 : decode cX9_set 23 = .ok (.bipush 7, 2) := by decide +kernel
theorem dX9_set_25 : decode cX9_set 25 = .ok (.goto 5, 3) := by decide +kernel
theorem dX9_set_28 : decode cX9_set 28 = .ok (.bipush 9, 2) := by decide +kernel
theorem dX9_set_30 : decode cX9_set 30 = .ok (.istore_n 3, 1) := by decide +kernel
theorem dX9_set_31 : decode cX9_set 31 = .ok (.iload_n 1, 1) := by decide +kernel
theorem dX9_set_32 : decode cX9_set 32 = .ok (.i2l, 1) := by decide +kernel
theorem dX9_set_33 : decode cX9_set 33 = .ok (.lconst 0, 1) := by decide +kernel
theorem dX9_set_34 : decode cX9_set 34 = .ok (.ldc2_w 92, 3) := by decide +kernel
theorem dX9_set_37 : decode cX9_set 37 = .ok (.invokestatic 75, 3) := by decide +kernel
theorem dX9_set_40 : decode cX9_set 40 = .ok (.ifCond .eq 14, 3) := by decide +kernel
theorem dX9_set_43 : decode cX9_set 43 = .ok (.iload_n 2, 1) := by decide +kernel
theorem dX9_set_44 : decode cX9_set 44 = .ok (.i2l, 1) := by decide +kernel
theorem dX9_set_45 : decode cX9_set 45 = .ok (.lconst 0, 1) := by decide +kernel
theorem dX9_set_46 : decode cX9_set 46 = .ok (.iload_n 3, 1) := by decide +kernel
theorem dX9_set_47 : decode cX9_set 47 = .ok (.i2l, 1) := by decide +kernel
theorem dX9_set_48 : decode cX9_set 48 = .ok (.invokestatic 75, 3) := by decide +kernel
theorem dX9_set_51 : decode cX9_set 51 = .ok (.ifCond .ne 5, 3) := by decide +kernel
theorem dX9_set_54 : decode cX9_set 54 = .ok (.iconst (-1), 1) := by decide +kernel
theorem dX9_set_55 : decode cX9_set 55 = .ok (.ireturn, 1) := by decide +kernel
theorem dX9_set_56 : decode cX9_set 56 = .ok (.aload_n 0, 1) := by decide +kernel
theorem dX9_set_57 : decode cX9_set 57 = .ok (.getfield 22, 3) := by decide +kernel
theorem dX9_set_60 : decode cX9_set 60 = .ok (.iload_n 1, 1) := by decide +kernel
theorem dX9_set_61 : decode cX9_set 61 = .ok (.iaload, 1) := by decide +kernel
theorem dX9_set_62 : decode cX9_set 62 = .ok (.istore 4, 2) := by decide +kernel
theorem dX9_set_64 : decode cX9_set 64 = .ok (.aload_n 0, 1) := by decide +kernel
theorem dX9_set_65 : decode cX9_set 65 = .ok (.getfield 22, 3) := by decide +kernel
theorem dX9_set_68 : decode cX9_set 68 = .ok (.iload_n 1, 1) := by decide +kernel
theorem dX9_set_69 : decode cX9_set 69 = .ok (.iload_n 2, 1) := by decide +kernel
theorem dX9_set_70 : decode cX9_set 70 = .ok (.iastore, 1) := by decide +kernel
theorem dX9_set_71 : decode cX9_set 71 = .ok (.iload 4, 2) := by decide +kernel
theorem dX9_set_73 : decode cX9_set 73 = .ok (.ireturn, 1) := by decide +kernel
theorem dX9_grass_0 : decode cX9_grass 0 = .ok (.aload_n 0, 1) := by decide +kernel
theorem dX9_grass_1 : decode cX9_grass 1 = .ok (.iload_n 1, 1) := by decide +kernel
theorem dX9_grass_2 : decode cX9_grass 2 = .ok (.invokevirtual 94, 3) := by decide +kernel
theorem dX9_grass_5 : decode cX9_grass 5 = .ok (.ifCond .eq 24, 3) := by decide +kernel
theorem dX9_grass_8 : decode cX9_grass 8 = .ok (.iload_n 2, 1) := by decide +kernel
theorem dX9_grass_9 : decode cX9_grass 9 = .ok (.invokestatic 98, 3) := by decide +kernel
theorem dX9_grass_12 : decode cX9_grass 12 = .ok (.ifCond .eq 17, 3) := by decide +kernel
theorem dX9_grass_15 : decode cX9_grass 15 = .ok (.aload_n 0, 1) := by decide +kernel
theorem dX9_grass_16 : decode cX9_grass 16 = .ok (.getfield 16, 3) := by decide +kernel
theorem dX9_grass_19 : decode cX9_grass 19 = .ok (.bipush 15, 2) := by decide +kernel
theorem dX9_grass_21 : decode cX9_grass 21 = .ok (.iload_n 1, 1) := by decide +kernel
theorem dX9_grass_22 : decode cX9_grass 22 = .ok (.imul, 1) := by decide +kernel
theorem dX9_grass_23 : decode cX9_grass 23 = .ok (.iload_n 2, 1) := by decide +kernel
theorem dX9_grass_24 : decode cX9_grass 24 = .ok (.iadd, 1) := by decide +kernel
theorem dX9_grass_25 : decode cX9_grass 25 = .ok (.iaload, 1) := by decide +kernel
theorem dX9_grass_26 : decode cX9_grass 26 = .ok (.goto 4, 3) := by decide +kernel
theorem dX9_grass_29 : decode cX9_grass 29 = .ok (.iconst (-1), 1) := by decide +kernel
theorem dX9_grass_30 : decode cX9_grass 30 = .ok (.ireturn, 1) := by decide +kernel
theorem dX9_letter_0 : decode cX9_letter 0 = .ok (.iload_n 1, 1) := by decide +kernel
theorem dX9_letter_1 : decode cX9_letter 1 = .ok (.invokestatic 101, 3) := by decide +kernel
theorem dX9_letter_4 : decode cX9_letter 4 = .ok (.ifCond .eq 12, 3) := by decide +kernel
theorem dX9_letter_7 : decode cX9_letter 7 = .ok (.aload_n 0, 1) := by decide +kernel
theorem dX9_letter_8 : decode cX9_letter 8 = .ok (.getfield 7, 3) := by decide +kernel
theorem dX9_letter_11 : decode cX9_letter 11 = .ok (.iload_n 1, 1) := by decide +kernel
theorem dX9_letter_12 : decode cX9_letter 12 = .ok (.iaload, 1) := by decide +kernel
theorem dX9_letter_13 : decode cX9_letter 13 = .ok (.goto 4, 3) := by decide +kernel
theorem dX9_letter_16 : decode cX9_letter 16 = .ok (.iconst (-1), 1) := by decide +kernel
theorem dX9_letter_17 : decode cX9_letter 17 = .ok (.ireturn, 1) := by decide +kernel
theorem dX9_seenOf_0 : decode cX9_seenOf 0 = .ok (.iconst 0, 1) := by decide +kernel
theorem dX9_seenOf_1 : decode cX9_seenOf 1 = .ok (.istore_n 2, 1) := by decide +kernel
theorem dX9_seenOf_2 : decode cX9_seenOf 2 = .ok (.iconst 0, 1) := by decide +kernel
theorem dX9_seenOf_3 : decode cX9_seenOf 3 = .ok (.istore_n 3, 1) := by decide +kernel
theorem dX9_seenOf_4 : decode cX9_seenOf 4 = .ok (.iload_n 3, 1) := by decide +kernel
theorem dX9_seenOf_5 : decode cX9_seenOf 5 = .ok (.bipush 15, 2) := by decide +kernel
theorem dX9_seenOf_7 : decode cX9_seenOf 7 = .ok (.if_icmp .ge 39, 3) := by decide +kernel
theorem dX9_seenOf_10 : decode cX9_seenOf 10 = .ok (.iload_n 2, 1) := by decide +kernel
theorem dX9_seenOf_11 : decode cX9_seenOf 11 = .ok (.aload_n 0, 1) := by decide +kernel
theorem dX9_seenOf_12 : decode cX9_seenOf 12 = .ok (.getfield 16, 3) := by decide +kernel
theorem dX9_seenOf_15 : decode cX9_seenOf 15 = .ok (.bipush 15, 2) := by decide +kernel
theorem dX9_seenOf_17 : decode cX9_seenOf 17 = .ok (.iload_n 1, 1) := by decide +kernel
theorem dX9_seenOf_18 : decode cX9_seenOf 18 = .ok (.imul, 1) := by decide +kernel
theorem dX9_seenOf_19 : decode cX9_seenOf 19 = .ok (.iload_n 3, 1) := by decide +kernel
theorem dX9_seenOf_20 : decode cX9_seenOf 20 = .ok (.iadd, 1) := by decide +kernel
theorem dX9_seenOf_21 : decode cX9_seenOf 21 = .ok (.iaload, 1) := by decide +kernel
theorem dX9_seenOf_22 : decode cX9_seenOf 22 = .ok (.aload_n 0, 1) := by decide +kernel
theorem dX9_seenOf_23 : decode cX9_seenOf 23 = .ok (.getfield 22, 3) := by decide +kernel
theorem dX9_seenOf_26 : decode cX9_seenOf 26 = .ok (.iconst 1, 1) := by decide +kernel
theorem dX9_seenOf_27 : decode cX9_seenOf 27 = .ok (.iaload, 1) := by decide +kernel
theorem dX9_seenOf_28 : decode cX9_seenOf 28 = .ok (.if_icmp .gt 9, 3) := by decide +kernel
theorem dX9_seenOf_31 : decode cX9_seenOf 31 = .ok (.iconst 1, 1) := by decide +kernel
theorem dX9_seenOf_32 : decode cX9_seenOf 32 = .ok (.iload_n 3, 1) := by decide +kernel
theorem dX9_seenOf_33 : decode cX9_seenOf 33 = .ok (.ishl, 1) := by decide +kernel
theorem dX9_seenOf_34 : decode cX9_seenOf 34 = .ok (.goto 4, 3) := by decide +kernel
theorem dX9_seenOf_37 : decode cX9_seenOf 37 = .ok (.iconst 0, 1) := by decide +kernel
theorem dX9_seenOf_38 : decode cX9_seenOf 38 = .ok (.ior, 1) := by decide +kernel
theorem dX9_seenOf_39 : decode cX9_seenOf 39 = .ok (.istore_n 2, 1) := by decide +kernel
theorem dX9_seenOf_40 : decode cX9_seenOf 40 = .ok (.iinc 3 1, 3) := by decide +kernel
theorem dX9_seenOf_43 : decode cX9_seenOf 43 = .ok (.goto (-39), 3) := by decide +kernel
theorem dX9_seenOf_46 : decode cX9_seenOf 46 = .ok (.iload_n 2, 1) := by decide +kernel
theorem dX9_seenOf_47 : decode cX9_seenOf 47 = .ok (.ireturn, 1) := by decide +kernel
theorem dX9_seen_0 : decode cX9_seen 0 = .ok (.aload_n 0, 1) := by decide +kernel
theorem dX9_seen_1 : decode cX9_seen 1 = .ok (.iload_n 1, 1) := by decide +kernel
theorem dX9_seen_2 : decode cX9_seen 2 = .ok (.invokevirtual 94, 3) := by decide +kernel
theorem dX9_seen_5 : decode cX9_seen 5 = .ok (.ifCond .eq 11, 3) := by decide +kernel
theorem dX9_seen_8 : decode cX9_seen 8 = .ok (.aload_n 0, 1) := by decide +kernel
theorem dX9_seen_9 : decode cX9_seen 9 = .ok (.iload_n 1, 1) := by decide +kernel
theorem dX9_seen_10 : decode cX9_seen 10 = .ok (.invokevirtual 104, 3) := by decide +kernel
theorem dX9_seen_13 : decode cX9_seen 13 = .ok (.goto 4, 3) := by decide +kernel
theorem dX9_seen_16 : decode cX9_seen 16 = .ok (.iconst (-1), 1) := by decide +kernel
theorem dX9_seen_17 : decode cX9_seen 17 = .ok (.ireturn, 1) := by decide +kernel
theorem dX9_nearestForm_0 : decode cX9_nearestForm 0 = .ok (.iconst 0, 1) := by decide +kernel
theorem dX9_nearestForm_1 : decode cX9_nearestForm 1 = .ok (.istore_n 2, 1) := by decide +kernel
theorem dX9_nearestForm_2 : decode cX9_nearestForm 2 = .ok (.iconst 1, 1) := by decide +kernel
theorem dX9_nearestForm_3 : decode cX9_nearestForm 3 = .ok (.istore_n 3, 1) := by decide +kernel
theorem dX9_nearestForm_4 : decode cX9_nearestForm 4 = .ok (.iload_n 3, 1) := by decide +kernel
theorem dX9_nearestForm_5 : decode cX9_nearestForm 5 = .ok (.bipush 26, 2) := by decide +kernel
theorem dX9_nearestForm_7 : decode cX9_nearestForm 7 = .ok (.if_icmp .ge 40, 3) := by decide +kernel
theorem dX9_nearestForm_10 : decode cX9_nearestForm 10 = .ok (.iload_n 1, 1) := by decide +kernel
theorem dX9_nearestForm_11 : decode cX9_nearestForm 11 = .ok (.aload_n 0, 1) := by decide +kernel
theorem dX9_nearestForm_12 : decode cX9_nearestForm 12 = .ok (.getfield 7, 3) := by decide +kernel
theorem dX9_nearestForm_15 : decode cX9_nearestForm 15 = .ok (.iload_n 3, 1) := by decide +kernel
theorem dX9_nearestForm_16 : decode cX9_nearestForm 16 = .ok (.iaload, 1) := by decide +kernel
theorem dX9_nearestForm_17 : decode cX9_nearestForm 17 = .ok (.ixor, 1) := by decide +kernel
theorem dX9_nearestForm_18 : decode cX9_nearestForm 18 = .ok (.invokestatic 108, 3) := by decide +kernel
theorem dX9_nearestForm_21 : decode cX9_nearestForm 21 = .ok (.iload_n 1, 1) := by decide +kernel
theorem dX9_nearestForm_22 : decode cX9_nearestForm 22 = .ok (.aload_n 0, 1) := by decide +kernel
theorem dX9_nearestForm_23 : decode cX9_nearestForm 23 = .ok (.getfield 7, 3) := by decide +kernel
theorem dX9_nearestForm_26 : decode cX9_nearestForm 26 = .ok (.iload_n 2, 1) := by decide +kernel
theorem dX9_nearestForm_27 : decode cX9_nearestForm 27 = .ok (.iaload, 1) := by decide +kernel
theorem dX9_nearestForm_28 : decode cX9_nearestForm 28 = .ok (.ixor, 1) := by decide +kernel
theorem dX9_nearestForm_29 : decode cX9_nearestForm 29 = .ok (.invokestatic 108, 3) := by decide +kernel
theorem dX9_nearestForm_32 : decode cX9_nearestForm 32 = .ok (.if_icmp .ge 7, 3) := by decide +kernel
theorem dX9_nearestForm_35 : decode cX9_nearestForm 35 = .ok (.iload_n 3, 1) := by decide +kernel
theorem dX9_nearestForm_36 : decode cX9_nearestForm 36 = .ok (.goto 4, 3) := by decide +kernel
theorem dX9_nearestForm_39 : decode cX9_nearestForm 39 = .ok (.iload_n 2, 1) := by decide +kernel
theorem dX9_nearestForm_40 : decode cX9_nearestForm 40 = .ok (.istore_n 2, 1) := by decide +kernel
theorem dX9_nearestForm_41 : decode cX9_nearestForm 41 = .ok (.iinc 3 1, 3) := by decide +kernel
theorem dX9_nearestForm_44 : decode cX9_nearestForm 44 = .ok (.goto (-40), 3) := by decide +kernel
theorem dX9_nearestForm_47 : decode cX9_nearestForm 47 = .ok (.iload_n 2, 1) := by decide +kernel
theorem dX9_nearestForm_48 : decode cX9_nearestForm 48 = .ok (.ireturn, 1) := by decide +kernel
theorem dX9_readsAs_0 : decode cX9_readsAs 0 = .ok (.aload_n 0, 1) := by decide +kernel
theorem dX9_readsAs_1 : decode cX9_readsAs 1 = .ok (.iload_n 1, 1) := by decide +kernel
theorem dX9_readsAs_2 : decode cX9_readsAs 2 = .ok (.invokevirtual 111, 3) := by decide +kernel
theorem dX9_readsAs_5 : decode cX9_readsAs 5 = .ok (.istore_n 2, 1) := by decide +kernel
theorem dX9_readsAs_6 : decode cX9_readsAs 6 = .ok (.iload_n 1, 1) := by decide +kernel
theorem dX9_readsAs_7 : decode cX9_readsAs 7 = .ok (.aload_n 0, 1) := by decide +kernel
theorem dX9_readsAs_8 : decode cX9_readsAs 8 = .ok (.getfield 7, 3) := by decide +kernel
theorem dX9_readsAs_11 : decode cX9_readsAs 11 = .ok (.iload_n 2, 1) := by decide +kernel
theorem dX9_readsAs_12 : decode cX9_readsAs 12 = .ok (.iaload, 1) := by decide +kernel
theorem dX9_readsAs_13 : decode cX9_readsAs 13 = .ok (.ixor, 1) := by decide +kernel
theorem dX9_readsAs_14 : decode cX9_readsAs 14 = .ok (.invokestatic 108, 3) := by decide +kernel
theorem dX9_readsAs_17 : decode cX9_readsAs 17 = .ok (.aload_n 0, 1) := by decide +kernel
theorem dX9_readsAs_18 : decode cX9_readsAs 18 = .ok (.getfield 22, 3) := by decide +kernel
theorem dX9_readsAs_21 : decode cX9_readsAs 21 = .ok (.iconst 2, 1) := by decide +kernel
theorem dX9_readsAs_22 : decode cX9_readsAs 22 = .ok (.iaload, 1) := by decide +kernel
theorem dX9_readsAs_23 : decode cX9_readsAs 23 = .ok (.if_icmp .le 8, 3) := by decide +kernel
theorem dX9_readsAs_26 : decode cX9_readsAs 26 = .ok (.bipush (-4), 2) := by decide +kernel
theorem dX9_readsAs_28 : decode cX9_readsAs 28 = .ok (.goto 4, 3) := by decide +kernel
theorem dX9_readsAs_31 : decode cX9_readsAs 31 = .ok (.iload_n 2, 1) := by decide +kernel
theorem dX9_readsAs_32 : decode cX9_readsAs 32 = .ok (.ireturn, 1) := by decide +kernel
theorem dX9_reads_0 : decode cX9_reads 0 = .ok (.aload_n 0, 1) := by decide +kernel
theorem dX9_reads_1 : decode cX9_reads 1 = .ok (.iload_n 1, 1) := by decide +kernel
theorem dX9_reads_2 : decode cX9_reads 2 = .ok (.invokevirtual 94, 3) := by decide +kernel
theorem dX9_reads_5 : decode cX9_reads 5 = .ok (.ifCond .eq 15, 3) := by decide +kernel
theorem dX9_reads_8 : decode cX9_reads 8 = .ok (.aload_n 0, 1) := by decide +kernel
theorem dX9_reads_9 : decode cX9_reads 9 = .ok (.aload_n 0, 1) := by decide +kernel
theorem dX9_reads_10 : decode cX9_reads 10 = .ok (.iload_n 1, 1) := by decide +kernel
theorem dX9_reads_11 : decode cX9_reads 11 = .ok (.invokevirtual 104, 3) := by decide +kernel
theorem dX9_reads_14 : decode cX9_reads 14 = .ok (.invokevirtual 114, 3) := by decide +kernel
theorem dX9_reads_17 : decode cX9_reads 17 = .ok (.goto 4, 3) := by decide +kernel
theorem dX9_reads_20 : decode cX9_reads 20 = .ok (.iconst (-1), 1) := by decide +kernel
theorem dX9_reads_21 : decode cX9_reads 21 = .ok (.ireturn, 1) := by decide +kernel
theorem dX9_off_0 : decode cX9_off 0 = .ok (.aload_n 0, 1) := by decide +kernel
theorem dX9_off_1 : decode cX9_off 1 = .ok (.iload_n 1, 1) := by decide +kernel
theorem dX9_off_2 : decode cX9_off 2 = .ok (.invokevirtual 94, 3) := by decide +kernel
theorem dX9_off_5 : decode cX9_off 5 = .ok (.ifCond .ne 5, 3) := by decide +kernel
theorem dX9_off_8 : decode cX9_off 8 = .ok (.iconst (-1), 1) := by decide +kernel
theorem dX9_off_9 : decode cX9_off 9 = .ok (.ireturn, 1) := by decide +kernel
theorem dX9_off_10 : decode cX9_off 10 = .ok (.aload_n 0, 1) := by decide +kernel
theorem dX9_off_11 : decode cX9_off 11 = .ok (.iload_n 1, 1) := by decide +kernel
theorem dX9_off_12 : decode cX9_off 12 = .ok (.invokevirtual 104, 3) := by decide +kernel
theorem dX9_off_15 : decode cX9_off 15 = .ok (.istore_n 2, 1) := by decide +kernel
theorem dX9_off_16 : decode cX9_off 16 = .ok (.iload_n 2, 1) := by decide +kernel
theorem dX9_off_17 : decode cX9_off 17 = .ok (.aload_n 0, 1) := by decide +kernel
theorem dX9_off_18 : decode cX9_off 18 = .ok (.getfield 7, 3) := by decide +kernel
theorem dX9_off_21 : decode cX9_off 21 = .ok (.aload_n 0, 1) := by decide +kernel
theorem dX9_off_22 : decode cX9_off 22 = .ok (.iload_n 2, 1) := by decide +kernel
theorem dX9_off_23 : decode cX9_off 23 = .ok (.invokevirtual 111, 3) := by decide +kernel
theorem dX9_off_26 : decode cX9_off 26 = .ok (.iaload, 1) := by decide +kernel
theorem dX9_off_27 : decode cX9_off 27 = .ok (.ixor, 1) := by decide +kernel
theorem dX9_off_28 : decode cX9_off 28 = .ok (.invokestatic 108, 3) := by decide +kernel
theorem dX9_off_31 : decode cX9_off 31 = .ok (.ireturn, 1) := by decide +kernel
theorem dX9_hasGrown_0 : decode cX9_hasGrown 0 = .ok (.iconst 1, 1) := by decide +kernel
theorem dX9_hasGrown_1 : decode cX9_hasGrown 1 = .ok (.istore_n 3, 1) := by decide +kernel
theorem dX9_hasGrown_2 : decode cX9_hasGrown 2 = .ok (.iconst 0, 1) := by decide +kernel
theorem dX9_hasGrown_3 : decode cX9_hasGrown 3 = .ok (.istore 4, 2) := by decide +kernel
theorem dX9_hasGrown_5 : decode cX9_hasGrown 5 = .ok (.iload 4, 2) := by decide +kernel
theorem dX9_hasGrown_7 : decode cX9_hasGrown 7 = .ok (.bipush 15, 2) := by decide +kernel
theorem dX9_hasGrown_9 : decode cX9_hasGrown 9 = .ok (.if_icmp .ge 44, 3) := by decide +kernel
theorem dX9_hasGrown_12 : decode cX9_hasGrown 12 = .ok (.iload_n 3, 1) := by decide +kernel
theorem dX9_hasGrown_13 : decode cX9_hasGrown 13 = .ok (.ifCond .eq 32, 3) := by decide +kernel
theorem dX9_hasGrown_16 : decode cX9_hasGrown 16 = .ok (.iload_n 2, 1) := by decide +kernel
theorem dX9_hasGrown_17 : decode cX9_hasGrown 17 = .ok (.iload 4, 2) := by decide +kernel
theorem dX9_hasGrown_19 : decode cX9_hasGrown 19 = .ok (.invokestatic 117, 3) := by decide +kernel
theorem dX9_hasGrown_22 : decode cX9_hasGrown 22 = .ok (.ifCond .eq 19, 3) := by decide +kernel
theorem dX9_hasGrown_25 : decode cX9_hasGrown 25 = .ok (.aload_n 0, 1) := by decide +kernel
theorem dX9_hasGrown_26 : decode cX9_hasGrown 26 = .ok (.getfield 16, 3) := by decide +kernel
theorem dX9_hasGrown_29 : decode cX9_hasGrown 29 = .ok (.bipush 15, 2) := by decide +kernel
theorem dX9_hasGrown_31 : decode cX9_hasGrown 31 = .ok (.iload_n 1, 1) := by decide +kernel
theorem dX9_hasGrown_32 : decode cX9_hasGrown 32 = .ok (.imul, 1) := by decide +kernel
theorem dX9_hasGrown_33 : decode cX9_hasGrown 33 = .ok (.iload 4, 2) := by decide +kernel
theorem dX9_hasGrown_35 : decode cX9_hasGrown 35 = .ok (.iadd, 1) := by decide +kernel
theorem dX9_hasGrown_36 : decode cX9_hasGrown 36 = .ok (.iaload, 1) := by decide +kernel
theorem dX9_hasGrown_37 : decode cX9_hasGrown 37 = .ok (.iconst 2, 1) := by decide +kernel
theorem dX9_hasGrown_38 : decode cX9_hasGrown 38 = .ok (.if_icmp .le 7, 3) := by decide +kernel
theorem dX9_hasGrown_41 : decode cX9_hasGrown 41 = .ok (.iconst 1, 1) := by decide +kernel
theorem dX9_hasGrown_42 : decode cX9_hasGrown 42 = .ok (.goto 4, 3) := by decide +kernel
theorem dX9_hasGrown_45 : decode cX9_hasGrown 45 = .ok (.iconst 0, 1) := by decide +kernel
theorem dX9_hasGrown_46 : decode cX9_hasGrown 46 = .ok (.istore_n 3, 1) := by decide +kernel
theorem dX9_hasGrown_47 : decode cX9_hasGrown 47 = .ok (.iinc 4 1, 3) := by decide +kernel
theorem dX9_hasGrown_50 : decode cX9_hasGrown 50 = .ok (.goto (-45), 3) := by decide +kernel
theorem dX9_hasGrown_53 : decode cX9_hasGrown 53 = .ok (.iload_n 3, 1) := by decide +kernel
theorem dX9_hasGrown_54 : decode cX9_hasGrown 54 = .ok (.ireturn, 1) := by decide +kernel
theorem dX9_mowSet_0 : decode cX9_mowSet 0 = .ok (.iconst 0, 1) := by decide +kernel
theorem dX9_mowSet_1 : decode cX9_mowSet 1 = .ok (.istore_n 3, 1) := by decide +kernel
theorem dX9_mowSet_2 : decode cX9_mowSet 2 = .ok (.iconst 0, 1) := by decide +kernel
theorem dX9_mowSet_3 : decode cX9_mowSet 3 = .ok (.istore 4, 2) := by decide +kernel
theorem dX9_mowSet_5 : decode cX9_mowSet 5 = .ok (.iload 4, 2) := by decide +kernel
theorem dX9_mowSet_7 : decode cX9_mowSet 7 = .ok (.bipush 15, 2) := by decide +kernel
theorem dX9_mowSet_9 : decode cX9_mowSet 9 = .ok (.if_icmp .ge 56, 3) := by decide +kernel
theorem dX9_mowSet_12 : decode cX9_mowSet 12 = .ok (.bipush 15, 2) := by decide +kernel
theorem dX9_mowSet_14 : decode cX9_mowSet 14 = .ok (.iload_n 1, 1) := by decide +kernel
theorem dX9_mowSet_15 : decode cX9_mowSet 15 = .ok (.imul, 1) := by decide +kernel
theorem dX9_mowSet_16 : decode cX9_mowSet 16 = .ok (.iload 4, 2) := by decide +kernel
theorem dX9_mowSet_18 : decode cX9_mowSet 18 = .ok (.iadd, 1) := by decide +kernel
theorem dX9_mowSet_19 : decode cX9_mowSet 19 = .ok (.istore 5, 2) := by decide +kernel
theorem dX9_mowSet_21 : decode cX9_mowSet 21 = .ok (.iload_n 2, 1) := by decide +kernel
theorem dX9_mowSet_22 : decode cX9_mowSet 22 = .ok (.iload 4, 2) := by decide +kernel
theorem dX9_mowSet_24 : decode cX9_mowSet 24 = .ok (.invokestatic 117, 3) := by decide +kernel
theorem dX9_mowSet_27 : decode cX9_mowSet 27 = .ok (.ifCond .eq 32, 3) := by decide +kernel
theorem dX9_mowSet_30 : decode cX9_mowSet 30 = .ok (.aload_n 0, 1) := by decide +kernel
theorem dX9_mowSet_31 : decode cX9_mowSet 31 = .ok (.getfield 16, 3) := by decide +kernel
theorem dX9_mowSet_34 : decode cX9_mowSet 34 = .ok (.iload 5, 2) := by decide +kernel
theorem dX9_mowSet_36 : decode cX9_mowSet 36 = .ok (.iaload, 1) := by decide +kernel
theorem dX9_mowSet_37 : decode cX9_mowSet 37 = .ok (.iconst 2, 1) := by decide +kernel
theorem dX9_mowSet_38 : decode cX9_mowSet 38 = .ok (.if_icmp .le 21, 3) := by decide +kernel
theorem dX9_mowSet_41 : decode cX9_mowSet 41 = .ok (.iload_n 3, 1) := by decide +kernel
theorem dX9_mowSet_42 : decode cX9_mowSet 42 = .ok (.aload_n 0, 1) := by decide +kernel
theorem dX9_mowSet_43 : decode cX9_mowSet 43 = .ok (.getfield 16, 3) := by decide +kernel
theorem dX9_mowSet_46 : decode cX9_mowSet 46 = .ok (.iload 5, 2) := by decide +kernel
theorem dX9_mowSet_48 : decode cX9_mowSet 48 = .ok (.iaload, 1) := by decide +kernel
theorem dX9_mowSet_49 : decode cX9_mowSet 49 = .ok (.iadd, 1) := by decide +kernel
theorem dX9_mowSet_50 : decode cX9_mowSet 50 = .ok (.istore_n 3, 1) := by decide +kernel
theorem dX9_mowSet_51 : decode cX9_mowSet 51 = .ok (.aload_n 0, 1) := by decide +kernel
theorem dX9_mowSet_52 : decode cX9_mowSet 52 = .ok (.getfield 16, 3) := by decide +kernel
theorem dX9_mowSet_55 : decode cX9_mowSet 55 = .ok (.iload 5, 2) := by decide +kernel
theorem dX9_mowSet_57 : decode cX9_mowSet 57 = .ok (.iconst 0, 1) := by decide +kernel
theorem dX9_mowSet_58 : decode cX9_mowSet 58 = .ok (.iastore, 1) := by decide +kernel
theorem dX9_mowSet_59 : decode cX9_mowSet 59 = .ok (.iinc 4 1, 3) := by decide +kernel
theorem dX9_mowSet_62 : decode cX9_mowSet 62 = .ok (.goto (-57), 3) := by decide +kernel
theorem dX9_mowSet_65 : decode cX9_mowSet 65 = .ok (.aload_n 0, 1) := by decide +kernel
theorem dX9_mowSet_66 : decode cX9_mowSet 66 = .ok (.getfield 19, 3) := by decide +kernel
theorem dX9_mowSet_69 : decode cX9_mowSet 69 = .ok (.aload_n 0, 1) := by decide +kernel
theorem dX9_mowSet_70 : decode cX9_mowSet 70 = .ok (.getfield 13, 3) := by decide +kernel
theorem dX9_mowSet_73 : decode cX9_mowSet 73 = .ok (.iload_n 1, 1) := by decide +kernel
theorem dX9_mowSet_74 : decode cX9_mowSet 74 = .ok (.iaload, 1) := by decide +kernel
theorem dX9_mowSet_75 : decode cX9_mowSet 75 = .ok (.dup2, 1) := by decide +kernel
theorem dX9_mowSet_76 : decode cX9_mowSet 76 = .ok (.iaload, 1) := by decide +kernel
theorem dX9_mowSet_77 : decode cX9_mowSet 77 = .ok (.iload_n 3, 1) := by decide +kernel
theorem dX9_mowSet_78 : decode cX9_mowSet 78 = .ok (.iadd, 1) := by decide +kernel
theorem dX9_mowSet_79 : decode cX9_mowSet 79 = .ok (.iastore, 1) := by decide +kernel
theorem dX9_mowSet_80 : decode cX9_mowSet 80 = .ok (.iload_n 3, 1) := by decide +kernel
theorem dX9_mowSet_81 : decode cX9_mowSet 81 = .ok (.ireturn, 1) := by decide +kernel
theorem dX9_mow_0 : decode cX9_mow 0 = .ok (.aload_n 0, 1) := by decide +kernel
theorem dX9_mow_1 : decode cX9_mow 1 = .ok (.iload_n 1, 1) := by decide +kernel
theorem dX9_mow_2 : decode cX9_mow 2 = .ok (.invokevirtual 94, 3) := by decide +kernel
theorem dX9_mow_5 : decode cX9_mow 5 = .ok (.ifCond .eq 10, 3) := by decide +kernel
theorem dX9_mow_8 : decode cX9_mow 8 = .ok (.iload_n 2, 1) := by decide +kernel
theorem dX9_mow_9 : decode cX9_mow 9 = .ok (.invokestatic 101, 3) := by decide +kernel
theorem dX9_mow_12 : decode cX9_mow 12 = .ok (.ifCond .ne 5, 3) := by decide +kernel
theorem dX9_mow_15 : decode cX9_mow 15 = .ok (.iconst (-1), 1) := by decide +kernel
theorem dX9_mow_16 : decode cX9_mow 16 = .ok (.ireturn, 1) := by decide +kernel
theorem dX9_mow_17 : decode cX9_mow 17 = .ok (.aload_n 0, 1) := by decide +kernel
theorem dX9_mow_18 : decode cX9_mow 18 = .ok (.iload_n 1, 1) := by decide +kernel
theorem dX9_mow_19 : decode cX9_mow 19 = .ok (.aload_n 0, 1) := by decide +kernel
theorem dX9_mow_20 : decode cX9_mow 20 = .ok (.getfield 7, 3) := by decide +kernel
theorem dX9_mow_23 : decode cX9_mow 23 = .ok (.iload_n 2, 1) := by decide +kernel
theorem dX9_mow_24 : decode cX9_mow 24 = .ok (.iaload, 1) := by decide +kernel
theorem dX9_mow_25 : decode cX9_mow 25 = .ok (.invokevirtual 121, 3) := by decide +kernel
theorem dX9_mow_28 : decode cX9_mow 28 = .ok (.ifCond .eq 17, 3) := by decide +kernel
theorem dX9_mow_31 : decode cX9_mow 31 = .ok (.aload_n 0, 1) := by decide +kernel
theorem dX9_mow_32 : decode cX9_mow 32 = .ok (.iload_n 1, 1) := by decide +kernel
theorem dX9_mow_33 : decode cX9_mow 33 = .ok (.aload_n 0, 1) := by decide +kernel
theorem dX9_mow_34 : decode cX9_mow 34 = .ok (.getfield 7, 3) := by decide +kernel
theorem dX9_mow_37 : decode cX9_mow 37 = .ok (.iload_n 2, 1) := by decide +kernel
theorem dX9_mow_38 : decode cX9_mow 38 = .ok (.iaload, 1) := by decide +kernel
theorem dX9_mow_39 : decode cX9_mow 39 = .ok (.invokevirtual 124, 3) := by decide +kernel
theorem dX9_mow_42 : decode cX9_mow 42 = .ok (.goto 5, 3) := by decide +kernel
theorem dX9_mow_45 : decode cX9_mow 45 = .ok (.bipush (-2), 2) := by decide +kernel
theorem dX9_mow_47 : decode cX9_mow 47 = .ok (.ireturn, 1) := by decide +kernel
theorem dX9_cut_0 : decode cX9_cut 0 = .ok (.aload_n 0, 1) := by decide +kernel
theorem dX9_cut_1 : decode cX9_cut 1 = .ok (.iload_n 1, 1) := by decide +kernel
theorem dX9_cut_2 : decode cX9_cut 2 = .ok (.invokevirtual 94, 3) := by decide +kernel
theorem dX9_cut_5 : decode cX9_cut 5 = .ok (.ifCond .eq 14, 3) := by decide +kernel
theorem dX9_cut_8 : decode cX9_cut 8 = .ok (.aload_n 0, 1) := by decide +kernel
theorem dX9_cut_9 : decode cX9_cut 9 = .ok (.iload_n 1, 1) := by decide +kernel
theorem dX9_cut_10 : decode cX9_cut 10 = .ok (.sipush 32767, 3) := by decide +kernel
theorem dX9_cut_13 : decode cX9_cut 13 = .ok (.invokevirtual 124, 3) := by decide +kernel
theorem dX9_cut_16 : decode cX9_cut 16 = .ok (.goto 4, 3) := by decide +kernel
theorem dX9_cut_19 : decode cX9_cut 19 = .ok (.iconst (-1), 1) := by decide +kernel
theorem dX9_cut_20 : decode cX9_cut 20 = .ok (.ireturn, 1) := by decide +kernel
theorem dX9_fault_0 : decode cX9_fault 0 = .ok (.aload_n 0, 1) := by decide +kernel
theorem dX9_fault_1 : decode cX9_fault 1 = .ok (.iload_n 1, 1) := by decide +kernel
theorem dX9_fault_2 : decode cX9_fault 2 = .ok (.invokevirtual 94, 3) := by decide +kernel
theorem dX9_fault_5 : decode cX9_fault 5 = .ok (.ifCond .eq 20, 3) := by decide +kernel
theorem dX9_fault_8 : decode cX9_fault 8 = .ok (.iload_n 2, 1) := by decide +kernel
theorem dX9_fault_9 : decode cX9_fault 9 = .ok (.invokestatic 98, 3) := by decide +kernel
theorem dX9_fault_12 : decode cX9_fault 12 = .ok (.ifCond .eq 13, 3) := by decide +kernel
theorem dX9_fault_15 : decode cX9_fault 15 = .ok (.iload_n 3, 1) := by decide +kernel
theorem dX9_fault_16 : decode cX9_fault 16 = .ok (.i2l, 1) := by decide +kernel
theorem dX9_fault_17 : decode cX9_fault 17 = .ok (.lconst 0, 1) := by decide +kernel
theorem dX9_fault_18 : decode cX9_fault 18 = .ok (.lconst 1, 1) := by decide +kernel
theorem dX9_fault_19 : decode cX9_fault 19 = .ok (.invokestatic 75, 3) := by decide +kernel
theorem dX9_fault_22 : decode cX9_fault 22 = .ok (.ifCond .ne 5, 3) := by decide +kernel
theorem dX9_fault_25 : decode cX9_fault 25 = .ok (.iconst (-1), 1) := by decide +kernel
theorem dX9_fault_26 : decode cX9_fault 26 = .ok (.ireturn, 1) := by decide +kernel
theorem dX9_fault_27 : decode cX9_fault 27 = .ok (.aload_n 0, 1) := by decide +kernel
theorem dX9_fault_28 : decode cX9_fault 28 = .ok (.getfield 16, 3) := by decide +kernel
theorem dX9_fault_31 : decode cX9_fault 31 = .ok (.bipush 15, 2) := by decide +kernel
theorem dX9_fault_33 : decode cX9_fault 33 = .ok (.iload_n 1, 1) := by decide +kernel
theorem dX9_fault_34 : decode cX9_fault 34 = .ok (.imul, 1) := by decide +kernel
theorem dX9_fault_35 : decode cX9_fault 35 = .ok (.iload_n 2, 1) := by decide +kernel
theorem dX9_fault_36 : decode cX9_fault 36 = .ok (.iadd, 1) := by decide +kernel
theorem dX9_fault_37 : decode cX9_fault 37 = .ok (.iaload, 1) := by decide +kernel
theorem dX9_fault_38 : decode cX9_fault 38 = .ok (.istore 4, 2) := by decide +kernel
theorem dX9_fault_40 : decode cX9_fault 40 = .ok (.aload_n 0, 1) := by decide +kernel
theorem dX9_fault_41 : decode cX9_fault 41 = .ok (.getfield 16, 3) := by decide +kernel
theorem dX9_fault_44 : decode cX9_fault 44 = .ok (.bipush 15, 2) := by decide +kernel
theorem dX9_fault_46 : decode cX9_fault 46 = .ok (.iload_n 1, 1) := by decide +kernel
theorem dX9_fault_47 : decode cX9_fault 47 = .ok (.imul, 1) := by decide +kernel
theorem dX9_fault_48 : decode cX9_fault 48 = .ok (.iload_n 2, 1) := by decide +kernel
theorem dX9_fault_49 : decode cX9_fault 49 = .ok (.iadd, 1) := by decide +kernel
theorem dX9_fault_50 : decode cX9_fault 50 = .ok (.iload_n 3, 1) := by decide +kernel
theorem dX9_fault_51 : decode cX9_fault 51 = .ok (.ifCond .ne 7, 3) := by decide +kernel
theorem dX9_fault_54 : decode cX9_fault 54 = .ok (.iconst 0, 1) := by decide +kernel
theorem dX9_fault_55 : decode cX9_fault 55 = .ok (.goto 5, 3) := by decide +kernel
theorem dX9_fault_58 : decode cX9_fault 58 = .ok (.bipush 9, 2) := by decide +kernel
theorem dX9_fault_60 : decode cX9_fault 60 = .ok (.iastore, 1) := by decide +kernel
theorem dX9_fault_61 : decode cX9_fault 61 = .ok (.iload 4, 2) := by decide +kernel
theorem dX9_fault_63 : decode cX9_fault 63 = .ok (.ireturn, 1) := by decide +kernel
theorem dX9_goWeek_0 : decode cX9_goWeek 0 = .ok (.iconst 0, 1) := by decide +kernel
theorem dX9_goWeek_1 : decode cX9_goWeek 1 = .ok (.istore_n 1, 1) := by decide +kernel
theorem dX9_goWeek_2 : decode cX9_goWeek 2 = .ok (.iload_n 1, 1) := by decide +kernel
theorem dX9_goWeek_3 : decode cX9_goWeek 3 = .ok (.bipush 15, 2) := by decide +kernel
theorem dX9_goWeek_5 : decode cX9_goWeek 5 = .ok (.aload_n 0, 1) := by decide +kernel
theorem dX9_goWeek_6 : decode cX9_goWeek 6 = .ok (.getfield 71, 3) := by decide +kernel
theorem dX9_goWeek_9 : decode cX9_goWeek 9 = .ok (.imul, 1) := by decide +kernel
theorem dX9_goWeek_10 : decode cX9_goWeek 10 = .ok (.if_icmp .ge 41, 3) := by decide +kernel
theorem dX9_goWeek_13 : decode cX9_goWeek 13 = .ok (.aload_n 0, 1) := by decide +kernel
theorem dX9_goWeek_14 : decode cX9_goWeek 14 = .ok (.getfield 16, 3) := by decide +kernel
theorem dX9_goWeek_17 : decode cX9_goWeek 17 = .ok (.iload_n 1, 1) := by decide +kernel
theorem dX9_goWeek_18 : decode cX9_goWeek 18 = .ok (.iaload, 1) := by decide +kernel
theorem dX9_goWeek_19 : decode cX9_goWeek 19 = .ok (.aload_n 0, 1) := by decide +kernel
theorem dX9_goWeek_20 : decode cX9_goWeek 20 = .ok (.getfield 22, 3) := by decide +kernel
theorem dX9_goWeek_23 : decode cX9_goWeek 23 = .ok (.iconst 0, 1) := by decide +kernel
theorem dX9_goWeek_24 : decode cX9_goWeek 24 = .ok (.iaload, 1) := by decide +kernel
theorem dX9_goWeek_25 : decode cX9_goWeek 25 = .ok (.iadd, 1) := by decide +kernel
theorem dX9_goWeek_26 : decode cX9_goWeek 26 = .ok (.istore_n 2, 1) := by decide +kernel
theorem dX9_goWeek_27 : decode cX9_goWeek 27 = .ok (.aload_n 0, 1) := by decide +kernel
theorem dX9_goWeek_28 : decode cX9_goWeek 28 = .ok (.getfield 16, 3) := by decide +kernel
theorem dX9_goWeek_31 : decode cX9_goWeek 31 = .ok (.iload_n 1, 1) := by decide +kernel
theorem dX9_goWeek_32 : decode cX9_goWeek 32 = .ok (.iload_n 2, 1) := by decide +kernel
theorem dX9_goWeek_33 : decode cX9_goWeek 33 = .ok (.bipush 9, 2) := by decide +kernel
theorem dX9_goWeek_35 : decode cX9_goWeek 35 = .ok (.if_icmp .le 8, 3) := by decide +kernel
theorem dX9_goWeek_38 : decode cX9_goWeek 38 = .ok (.bipush 9, 2) := by decide +kernel
theorem dX9_goWeek_40 : decode cX9_goWeek 40 = .ok (.goto 4, 3) := by decide +kernel
theorem dX9_goWeek_43 : decode cX9_goWeek 43 = .ok (.iload_n 2, 1) := by decide +kernel
theorem dX9_goWeek_44 : decode cX9_goWeek 44 = .ok (.iastore, 1) := by decide +kernel
theorem dX9_goWeek_45 : decode cX9_goWeek 45 = .ok (.iinc 1 1, 3) := by decide +kernel
theorem dX9_goWeek_48 : decode cX9_goWeek 48 = .ok (.goto (-46), 3) := by decide +kernel
theorem dX9_goWeek_51 : decode cX9_goWeek 51 = .ok (.return_, 1) := by decide +kernel
theorem dX9_weeks_0 : decode cX9_weeks 0 = .ok (.iload_n 1, 1) := by decide +kernel
theorem dX9_weeks_1 : decode cX9_weeks 1 = .ok (.i2l, 1) := by decide +kernel
theorem dX9_weeks_2 : decode cX9_weeks 2 = .ok (.lconst 1, 1) := by decide +kernel
theorem dX9_weeks_3 : decode cX9_weeks 3 = .ok (.ldc2_w 128, 3) := by decide +kernel
theorem dX9_weeks_6 : decode cX9_weeks 6 = .ok (.invokestatic 75, 3) := by decide +kernel
theorem dX9_weeks_9 : decode cX9_weeks 9 = .ok (.ifCond .ne 5, 3) := by decide +kernel
theorem dX9_weeks_12 : decode cX9_weeks 12 = .ok (.iconst (-1), 1) := by decide +kernel
theorem dX9_weeks_13 : decode cX9_weeks 13 = .ok (.ireturn, 1) := by decide +kernel
theorem dX9_weeks_14 : decode cX9_weeks 14 = .ok (.iconst 0, 1) := by decide +kernel
theorem dX9_weeks_15 : decode cX9_weeks 15 = .ok (.istore_n 2, 1) := by decide +kernel
theorem dX9_weeks_16 : decode cX9_weeks 16 = .ok (.iload_n 2, 1) := by decide +kernel
theorem dX9_weeks_17 : decode cX9_weeks 17 = .ok (.iload_n 1, 1) := by decide +kernel
theorem dX9_weeks_18 : decode cX9_weeks 18 = .ok (.if_icmp .ge 13, 3) := by decide +kernel
theorem dX9_weeks_21 : decode cX9_weeks 21 = .ok (.aload_n 0, 1) := by decide +kernel
theorem dX9_weeks_22 : decode cX9_weeks 22 = .ok (.invokevirtual 130, 3) := by decide +kernel
theorem dX9_weeks_25 : decode cX9_weeks 25 = .ok (.iinc 2 1, 3) := by decide +kernel
theorem dX9_weeks_28 : decode cX9_weeks 28 = .ok (.goto (-12), 3) := by decide +kernel
theorem dX9_weeks_31 : decode cX9_weeks 31 = .ok (.iconst 0, 1) := by decide +kernel
theorem dX9_weeks_32 : decode cX9_weeks 32 = .ok (.istore_n 2, 1) := by decide +kernel
theorem dX9_weeks_33 : decode cX9_weeks 33 = .ok (.iconst 0, 1) := by decide +kernel
theorem dX9_weeks_34 : decode cX9_weeks 34 = .ok (.istore_n 3, 1) := by decide +kernel
theorem dX9_weeks_35 : decode cX9_weeks 35 = .ok (.iload_n 3, 1) := by decide +kernel
theorem dX9_weeks_36 : decode cX9_weeks 36 = .ok (.bipush 15, 2) := by decide +kernel
theorem dX9_weeks_38 : decode cX9_weeks 38 = .ok (.aload_n 0, 1) := by decide +kernel
theorem dX9_weeks_39 : decode cX9_weeks 39 = .ok (.getfield 71, 3) := by decide +kernel
theorem dX9_weeks_42 : decode cX9_weeks 42 = .ok (.imul, 1) := by decide +kernel
theorem dX9_weeks_43 : decode cX9_weeks 43 = .ok (.if_icmp .ge 28, 3) := by decide +kernel
theorem dX9_weeks_46 : decode cX9_weeks 46 = .ok (.iload_n 2, 1) := by decide +kernel
theorem dX9_weeks_47 : decode cX9_weeks 47 = .ok (.aload_n 0, 1) := by decide +kernel
theorem dX9_weeks_48 : decode cX9_weeks 48 = .ok (.getfield 16, 3) := by decide +kernel
theorem dX9_weeks_51 : decode cX9_weeks 51 = .ok (.iload_n 3, 1) := by decide +kernel
theorem dX9_weeks_52 : decode cX9_weeks 52 = .ok (.iaload, 1) := by decide +kernel
theorem dX9_weeks_53 : decode cX9_weeks 53 = .ok (.bipush 9, 2) := by decide +kernel
theorem dX9_weeks_55 : decode cX9_weeks 55 = .ok (.if_icmp .ne 7, 3) := by decide +kernel
theorem dX9_weeks_58 : decode cX9_weeks 58 = .ok (.iconst 1, 1) := by decide +kernel
theorem dX9_weeks_59 : decode cX9_weeks 59 = .ok (.goto 4, 3) := by decide +kernel
theorem dX9_weeks_62 : decode cX9_weeks 62 = .ok (.iconst 0, 1) := by decide +kernel
theorem dX9_weeks_63 : decode cX9_weeks 63 = .ok (.iadd, 1) := by decide +kernel
theorem dX9_weeks_64 : decode cX9_weeks 64 = .ok (.istore_n 2, 1) := by decide +kernel
theorem dX9_weeks_65 : decode cX9_weeks 65 = .ok (.iinc 3 1, 3) := by decide +kernel
theorem dX9_weeks_68 : decode cX9_weeks 68 = .ok (.goto (-33), 3) := by decide +kernel
theorem dX9_weeks_71 : decode cX9_weeks 71 = .ok (.iload_n 2, 1) := by decide +kernel
theorem dX9_weeks_72 : decode cX9_weeks 72 = .ok (.ireturn, 1) := by decide +kernel
theorem dX9_hay_0 : decode cX9_hay 0 = .ok (.iload_n 1, 1) := by decide +kernel
theorem dX9_hay_1 : decode cX9_hay 1 = .ok (.i2l, 1) := by decide +kernel
theorem dX9_hay_2 : decode cX9_hay 2 = .ok (.lconst 0, 1) := by decide +kernel
theorem dX9_hay_3 : decode cX9_hay 3 = .ok (.ldc2_w 86, 3) := by decide +kernel
theorem dX9_hay_6 : decode cX9_hay 6 = .ok (.invokestatic 75, 3) := by decide +kernel
theorem dX9_hay_9 : decode cX9_hay 9 = .ok (.ifCond .eq 12, 3) := by decide +kernel
theorem dX9_hay_12 : decode cX9_hay 12 = .ok (.aload_n 0, 1) := by decide +kernel
theorem dX9_hay_13 : decode cX9_hay 13 = .ok (.getfield 19, 3) := by decide +kernel
theorem dX9_hay_16 : decode cX9_hay 16 = .ok (.iload_n 1, 1) := by decide +kernel
theorem dX9_hay_17 : decode cX9_hay 17 = .ok (.iaload, 1) := by decide +kernel
theorem dX9_hay_18 : decode cX9_hay 18 = .ok (.goto 4, 3) := by decide +kernel
theorem dX9_hay_21 : decode cX9_hay 21 = .ok (.iconst (-1), 1) := by decide +kernel
theorem dX9_hay_22 : decode cX9_hay 22 = .ok (.ireturn, 1) := by decide +kernel
theorem dX9_type_0 : decode cX9_type 0 = .ok (.iload_n 3, 1) := by decide +kernel
theorem dX9_type_1 : decode cX9_type 1 = .ok (.i2l, 1) := by decide +kernel
theorem dX9_type_2 : decode cX9_type 2 = .ok (.lconst 1, 1) := by decide +kernel
theorem dX9_type_3 : decode cX9_type 3 = .ok (.ldc2_w 133, 3) := by decide +kernel
theorem dX9_type_6 : decode cX9_type 6 = .ok (.invokestatic 75, 3) := by decide +kernel
theorem dX9_type_9 : decode cX9_type 9 = .ok (.ifCond .ne 5, 3) := by decide +kernel
theorem dX9_type_12 : decode cX9_type 12 = .ok (.iconst (-1), 1) := by decide +kernel
theorem dX9_type_13 : decode cX9_type 13 = .ok (.ireturn, 1) := by decide +kernel
theorem dX9_type_14 : decode cX9_type 14 = .ok (.iload_n 3, 1) := by decide +kernel
theorem dX9_type_15 : decode cX9_type 15 = .ok (.iconst 1, 1) := by decide +kernel
theorem dX9_type_16 : decode cX9_type 16 = .ok (.isub, 1) := by decide +kernel
theorem dX9_type_17 : decode cX9_type 17 = .ok (.istore 4, 2) := by decide +kernel
theorem dX9_type_19 : decode cX9_type 19 = .ok (.iload 4, 2) := by decide +kernel
theorem dX9_type_21 : decode cX9_type 21 = .ok (.ifCond .lt 34, 3) := by decide +kernel
theorem dX9_type_24 : decode cX9_type 24 = .ok (.lload_n 1, 1) := by decide +kernel
theorem dX9_type_25 : decode cX9_type 25 = .ok (.bipush 8, 2) := by decide +kernel
theorem dX9_type_27 : decode cX9_type 27 = .ok (.iload 4, 2) := by decide +kernel
theorem dX9_type_29 : decode cX9_type 29 = .ok (.imul, 1) := by decide +kernel
theorem dX9_type_30 : decode cX9_type 30 = .ok (.lshr, 1) := by decide +kernel
theorem dX9_type_31 : decode cX9_type 31 = .ok (.ldc2_w 135, 3) := by decide +kernel
theorem dX9_type_34 : decode cX9_type 34 = .ok (.land, 1) := by decide +kernel
theorem dX9_type_35 : decode cX9_type 35 = .ok (.ldc2_w 137, 3) := by decide +kernel
theorem dX9_type_38 : decode cX9_type 38 = .ok (.ldc2_w 139, 3) := by decide +kernel
theorem dX9_type_41 : decode cX9_type 41 = .ok (.invokestatic 75, 3) := by decide +kernel
theorem dX9_type_44 : decode cX9_type 44 = .ok (.ifCond .ne 5, 3) := by decide +kernel
theorem dX9_type_47 : decode cX9_type 47 = .ok (.iconst (-1), 1) := by decide +kernel
theorem dX9_type_48 : decode cX9_type 48 = .ok (.ireturn, 1) := by decide +kernel
theorem dX9_type_49 : decode cX9_type 49 = .ok (.iinc 4 (-1), 3) := by decide +kernel
theorem dX9_type_52 : decode cX9_type 52 = .ok (.goto (-33), 3) := by decide +kernel
theorem dX9_type_55 : decode cX9_type 55 = .ok (.aload_n 0, 1) := by decide +kernel
theorem dX9_type_56 : decode cX9_type 56 = .ok (.getfield 141, 3) := by decide +kernel
theorem dX9_type_59 : decode cX9_type 59 = .ok (.iload_n 3, 1) := by decide +kernel
theorem dX9_type_60 : decode cX9_type 60 = .ok (.iadd, 1) := by decide +kernel
theorem dX9_type_61 : decode cX9_type 61 = .ok (.bipush 80, 2) := by decide +kernel
theorem dX9_type_63 : decode cX9_type 63 = .ok (.if_icmp .le 6, 3) := by decide +kernel
theorem dX9_type_66 : decode cX9_type 66 = .ok (.bipush (-3), 2) := by decide +kernel
theorem dX9_type_68 : decode cX9_type 68 = .ok (.ireturn, 1) := by decide +kernel
theorem dX9_type_69 : decode cX9_type 69 = .ok (.iload_n 3, 1) := by decide +kernel
theorem dX9_type_70 : decode cX9_type 70 = .ok (.iconst 1, 1) := by decide +kernel
theorem dX9_type_71 : decode cX9_type 71 = .ok (.isub, 1) := by decide +kernel
theorem dX9_type_72 : decode cX9_type 72 = .ok (.istore 4, 2) := by decide +kernel
theorem dX9_type_74 : decode cX9_type 74 = .ok (.iload 4, 2) := by decide +kernel
theorem dX9_type_76 : decode cX9_type 76 = .ok (.ifCond .lt 40, 3) := by decide +kernel
theorem dX9_type_79 : decode cX9_type 79 = .ok (.aload_n 0, 1) := by decide +kernel
theorem dX9_type_80 : decode cX9_type 80 = .ok (.getfield 31, 3) := by decide +kernel
theorem dX9_type_83 : decode cX9_type 83 = .ok (.aload_n 0, 1) := by decide +kernel
theorem dX9_type_84 : decode cX9_type 84 = .ok (.getfield 141, 3) := by decide +kernel
theorem dX9_type_87 : decode cX9_type 87 = .ok (.lload_n 1, 1) := by decide +kernel
theorem dX9_type_88 : decode cX9_type 88 = .ok (.bipush 8, 2) := by decide +kernel
theorem dX9_type_90 : decode cX9_type 90 = .ok (.iload 4, 2) := by decide +kernel
theorem dX9_type_92 : decode cX9_type 92 = .ok (.imul, 1) := by decide +kernel
theorem dX9_type_93 : decode cX9_type 93 = .ok (.lshr, 1) := by decide +kernel
theorem dX9_type_94 : decode cX9_type 94 = .ok (.ldc2_w 135, 3) := by decide +kernel
theorem dX9_type_97 : decode cX9_type 97 = .ok (.land, 1) := by decide +kernel
theorem dX9_type_98 : decode cX9_type 98 = .ok (.l2i, 1) := by decide +kernel
theorem dX9_type_99 : decode cX9_type 99 = .ok (.iastore, 1) := by decide +kernel
theorem dX9_type_100 : decode cX9_type 100 = .ok (.aload_n 0, 1) := by decide +kernel
theorem dX9_type_101 : decode cX9_type 101 = .ok (.dup, 1) := by decide +kernel
theorem dX9_type_102 : decode cX9_type 102 = .ok (.getfield 141, 3) := by decide +kernel
theorem dX9_type_105 : decode cX9_type 105 = .ok (.iconst 1, 1) := by decide +kernel
theorem dX9_type_106 : decode cX9_type 106 = .ok (.iadd, 1) := by decide +kernel
theorem dX9_type_107 : decode cX9_type 107 = .ok (.putfield 141, 3) := by decide +kernel
theorem dX9_type_110 : decode cX9_type 110 = .ok (.iinc 4 (-1), 3) := by decide +kernel
theorem dX9_type_113 : decode cX9_type 113 = .ok (.goto (-39), 3) := by decide +kernel
theorem dX9_type_116 : decode cX9_type 116 = .ok (.aload_n 0, 1) := by decide +kernel
theorem dX9_type_117 : decode cX9_type 117 = .ok (.getfield 141, 3) := by decide +kernel
theorem dX9_type_120 : decode cX9_type 120 = .ok (.ireturn, 1) := by decide +kernel
theorem dX9_nextByte_0 : decode cX9_nextByte 0 = .ok (.aload_n 0, 1) := by decide +kernel
theorem dX9_nextByte_1 : decode cX9_nextByte 1 = .ok (.getfield 144, 3) := by decide +kernel
theorem dX9_nextByte_4 : decode cX9_nextByte 4 = .ok (.aload_n 0, 1) := by decide +kernel
theorem dX9_nextByte_5 : decode cX9_nextByte 5 = .ok (.getfield 141, 3) := by decide +kernel
theorem dX9_nextByte_8 : decode cX9_nextByte 8 = .ok (.if_icmp .ge 30, 3) := by decide +kernel
theorem dX9_nextByte_11 : decode cX9_nextByte 11 = .ok (.aload_n 0, 1) := by decide +kernel
theorem dX9_nextByte_12 : decode cX9_nextByte 12 = .ok (.getfield 31, 3) := by decide +kernel
theorem dX9_nextByte_15 : decode cX9_nextByte 15 = .ok (.aload_n 0, 1) := by decide +kernel
theorem dX9_nextByte_16 : decode cX9_nextByte 16 = .ok (.getfield 144, 3) := by decide +kernel
theorem dX9_nextByte_19 : decode cX9_nextByte 19 = .ok (.iaload, 1) := by decide +kernel
theorem dX9_nextByte_20 : decode cX9_nextByte 20 = .ok (.bipush 32, 2) := by decide +kernel
theorem dX9_nextByte_22 : decode cX9_nextByte 22 = .ok (.if_icmp .ne 16, 3) := by decide +kernel
theorem dX9_nextByte_25 : decode cX9_nextByte 25 = .ok (.aload_n 0, 1) := by decide +kernel
theorem dX9_nextByte_26 : decode cX9_nextByte 26 = .ok (.dup, 1) := by decide +kernel
theorem dX9_nextByte_27 : decode cX9_nextByte 27 = .ok (.getfield 144, 3) := by decide +kernel
theorem dX9_nextByte_30 : decode cX9_nextByte 30 = .ok (.iconst 1, 1) := by decide +kernel
theorem dX9_nextByte_31 : decode cX9_nextByte 31 = .ok (.iadd, 1) := by decide +kernel
theorem dX9_nextByte_32 : decode cX9_nextByte 32 = .ok (.putfield 144, 3) := by decide +kernel
theorem dX9_nextByte_35 : decode cX9_nextByte 35 = .ok (.goto (-35), 3) := by decide +kernel
theorem dX9_nextByte_38 : decode cX9_nextByte 38 = .ok (.aload_n 0, 1) := by decide +kernel
theorem dX9_nextByte_39 : decode cX9_nextByte 39 = .ok (.getfield 144, 3) := by decide +kernel
theorem dX9_nextByte_42 : decode cX9_nextByte 42 = .ok (.aload_n 0, 1) := by decide +kernel
theorem dX9_nextByte_43 : decode cX9_nextByte 43 = .ok (.getfield 141, 3) := by decide +kernel
theorem dX9_nextByte_46 : decode cX9_nextByte 46 = .ok (.if_icmp .ge 15, 3) := by decide +kernel
theorem dX9_nextByte_49 : decode cX9_nextByte 49 = .ok (.aload_n 0, 1) := by decide +kernel
theorem dX9_nextByte_50 : decode cX9_nextByte 50 = .ok (.getfield 31, 3) := by decide +kernel
theorem dX9_nextByte_53 : decode cX9_nextByte 53 = .ok (.aload_n 0, 1) := by decide +kernel
theorem dX9_nextByte_54 : decode cX9_nextByte 54 = .ok (.getfield 144, 3) := by decide +kernel
theorem dX9_nextByte_57 : decode cX9_nextByte 57 = .ok (.iaload, 1) := by decide +kernel
theorem dX9_nextByte_58 : decode cX9_nextByte 58 = .ok (.goto 4, 3) := by decide +kernel
theorem dX9_nextByte_61 : decode cX9_nextByte 61 = .ok (.iconst (-1), 1) := by decide +kernel
theorem dX9_nextByte_62 : decode cX9_nextByte 62 = .ok (.ireturn, 1) := by decide +kernel
theorem dX9_readNumber_0 : decode cX9_readNumber 0 = .ok (.aload_n 0, 1) := by decide +kernel
theorem dX9_readNumber_1 : decode cX9_readNumber 1 = .ok (.invokevirtual 147, 3) := by decide +kernel
theorem dX9_readNumber_4 : decode cX9_readNumber 4 = .ok (.pop, 1) := by decide +kernel
theorem dX9_readNumber_5 : decode cX9_readNumber 5 = .ok (.aload_n 0, 1) := by decide +kernel
theorem dX9_readNumber_6 : decode cX9_readNumber 6 = .ok (.getfield 144, 3) := by decide +kernel
theorem dX9_readNumber_9 : decode cX9_readNumber 9 = .ok (.istore_n 3, 1) := by decide +kernel
theorem dX9_readNumber_10 : decode cX9_readNumber 10 = .ok (.iconst 0, 1) := by decide +kernel
theorem dX9_readNumber_11 : decode cX9_readNumber 11 = .ok (.istore 4, 2) := by decide +kernel
theorem dX9_readNumber_13 : decode cX9_readNumber 13 = .ok (.aload_n 0, 1) := by decide +kernel
theorem dX9_readNumber_14 : decode cX9_readNumber 14 = .ok (.getfield 144, 3) := by decide +kernel
theorem dX9_readNumber_17 : decode cX9_readNumber 17 = .ok (.aload_n 0, 1) := by decide +kernel
theorem dX9_readNumber_18 : decode cX9_readNumber 18 = .ok (.getfield 141, 3) := by decide +kernel
end
section
theorem dX9_readNumber_21 : decode cX9_readNumber 21 = .ok (.if_icmp .ge 71, 3) := by decide +kernel
theorem dX9_readNumber_24 : decode cX9_readNumber 24 = .ok (.aload_n 0, 1) := by decide +kernel
theorem dX9_readNumber_25 : decode cX9_readNumber 25 = .ok (.getfield 31, 3) := by decide +kernel
theorem dX9_readNumber_28 : decode cX9_readNumber 28 = .ok (.aload_n 0, 1) := by decide +kernel
theorem dX9_readNumber_29 : decode cX9_readNumber 29 = .ok (.getfield 144, 3) := by decide +kernel
theorem dX9_readNumber_32 : decode cX9_readNumber 32 = .ok (.iaload, 1) := by decide +kernel
theorem dX9_readNumber_33 : decode cX9_readNumber 33 = .ok (.i2l, 1) := by decide +kernel
theorem dX9_readNumber_34 : decode cX9_readNumber 34 = .ok (.ldc2_w 151, 3) := by decide +kernel
theorem dX9_readNumber_37 : decode cX9_readNumber 37 = .ok (.ldc2_w 153, 3) := by decide +kernel
theorem dX9_readNumber_40 : decode cX9_readNumber 40 = .ok (.invokestatic 75, 3) := by decide +kernel
theorem dX9_readNumber_43 : decode cX9_readNumber 43 = .ok (.ifCond .eq 49, 3) := by decide +kernel
theorem dX9_readNumber_46 : decode cX9_readNumber 46 = .ok (.iload 4, 2) := by decide +kernel
theorem dX9_readNumber_48 : decode cX9_readNumber 48 = .ok (.sipush 999, 3) := by decide +kernel
theorem dX9_readNumber_51 : decode cX9_readNumber 51 = .ok (.if_icmp .le 8, 3) := by decide +kernel
theorem dX9_readNumber_54 : decode cX9_readNumber 54 = .ok (.iload 4, 2) := by decide +kernel
theorem dX9_readNumber_56 : decode cX9_readNumber 56 = .ok (.goto 21, 3) := by decide +kernel
theorem dX9_readNumber_59 : decode cX9_readNumber 59 = .ok (.bipush 10, 2) := by decide +kernel
theorem dX9_readNumber_61 : decode cX9_readNumber 61 = .ok (.iload 4, 2) := by decide +kernel
theorem dX9_readNumber_63 : decode cX9_readNumber 63 = .ok (.imul, 1) := by decide +kernel
theorem dX9_readNumber_64 : decode cX9_readNumber 64 = .ok (.aload_n 0, 1) := by decide +kernel
theorem dX9_readNumber_65 : decode cX9_readNumber 65 = .ok (.getfield 31, 3) := by decide +kernel
theorem dX9_readNumber_68 : decode cX9_readNumber 68 = .ok (.aload_n 0, 1) := by decide +kernel
theorem dX9_readNumber_69 : decode cX9_readNumber 69 = .ok (.getfield 144, 3) := by decide +kernel
theorem dX9_readNumber_72 : decode cX9_readNumber 72 = .ok (.iaload, 1) := by decide +kernel
theorem dX9_readNumber_73 : decode cX9_readNumber 73 = .ok (.iadd, 1) := by decide +kernel
theorem dX9_readNumber_74 : decode cX9_readNumber 74 = .ok (.bipush 48, 2) := by decide +kernel
theorem dX9_readNumber_76 : decode cX9_readNumber 76 = .ok (.isub, 1) := by decide +kernel
theorem dX9_readNumber_77 : decode cX9_readNumber 77 = .ok (.istore 4, 2) := by decide +kernel
theorem dX9_readNumber_79 : decode cX9_readNumber 79 = .ok (.aload_n 0, 1) := by decide +kernel
theorem dX9_readNumber_80 : decode cX9_readNumber 80 = .ok (.dup, 1) := by decide +kernel
theorem dX9_readNumber_81 : decode cX9_readNumber 81 = .ok (.getfield 144, 3) := by decide +kernel
theorem dX9_readNumber_84 : decode cX9_readNumber 84 = .ok (.iconst 1, 1) := by decide +kernel
theorem dX9_readNumber_85 : decode cX9_readNumber 85 = .ok (.iadd, 1) := by decide +kernel
theorem dX9_readNumber_86 : decode cX9_readNumber 86 = .ok (.putfield 144, 3) := by decide +kernel
theorem dX9_readNumber_89 : decode cX9_readNumber 89 = .ok (.goto (-76), 3) := by decide +kernel
theorem dX9_readNumber_92 : decode cX9_readNumber 92 = .ok (.aload_n 0, 1) := by decide +kernel
theorem dX9_readNumber_93 : decode cX9_readNumber 93 = .ok (.getfield 144, 3) := by decide +kernel
theorem dX9_readNumber_96 : decode cX9_readNumber 96 = .ok (.iload_n 3, 1) := by decide +kernel
theorem dX9_readNumber_97 : decode cX9_readNumber 97 = .ok (.if_icmp .ne 5, 3) := by decide +kernel
theorem dX9_readNumber_100 : decode cX9_readNumber 100 = .ok (.iconst (-1), 1) := by decide +kernel
theorem dX9_readNumber_101 : decode cX9_readNumber 101 = .ok (.ireturn, 1) := by decide +kernel
theorem dX9_readNumber_102 : decode cX9_readNumber 102 = .ok (.iload 4, 2) := by decide +kernel
theorem dX9_readNumber_104 : decode cX9_readNumber 104 = .ok (.i2l, 1) := by decide +kernel
theorem dX9_readNumber_105 : decode cX9_readNumber 105 = .ok (.iload_n 1, 1) := by decide +kernel
theorem dX9_readNumber_106 : decode cX9_readNumber 106 = .ok (.i2l, 1) := by decide +kernel
theorem dX9_readNumber_107 : decode cX9_readNumber 107 = .ok (.iload_n 2, 1) := by decide +kernel
theorem dX9_readNumber_108 : decode cX9_readNumber 108 = .ok (.i2l, 1) := by decide +kernel
theorem dX9_readNumber_109 : decode cX9_readNumber 109 = .ok (.invokestatic 75, 3) := by decide +kernel
theorem dX9_readNumber_112 : decode cX9_readNumber 112 = .ok (.ifCond .ne 10, 3) := by decide +kernel
theorem dX9_readNumber_115 : decode cX9_readNumber 115 = .ok (.aload_n 0, 1) := by decide +kernel
theorem dX9_readNumber_116 : decode cX9_readNumber 116 = .ok (.iload_n 3, 1) := by decide +kernel
theorem dX9_readNumber_117 : decode cX9_readNumber 117 = .ok (.putfield 144, 3) := by decide +kernel
theorem dX9_readNumber_120 : decode cX9_readNumber 120 = .ok (.iconst (-1), 1) := by decide +kernel
theorem dX9_readNumber_121 : decode cX9_readNumber 121 = .ok (.ireturn, 1) := by decide +kernel
theorem dX9_readNumber_122 : decode cX9_readNumber 122 = .ok (.iload 4, 2) := by decide +kernel
theorem dX9_readNumber_124 : decode cX9_readNumber 124 = .ok (.ireturn, 1) := by decide +kernel
theorem dX9_strips_0 : decode cX9_strips 0 = .ok (.aload_n 0, 1) := by decide +kernel
theorem dX9_strips_1 : decode cX9_strips 1 = .ok (.iconst 0, 1) := by decide +kernel
theorem dX9_strips_2 : decode cX9_strips 2 = .ok (.putfield 144, 3) := by decide +kernel
theorem dX9_strips_5 : decode cX9_strips 5 = .ok (.aload_n 0, 1) := by decide +kernel
theorem dX9_strips_6 : decode cX9_strips 6 = .ok (.iconst 0, 1) := by decide +kernel
theorem dX9_strips_7 : decode cX9_strips 7 = .ok (.putfield 155, 3) := by decide +kernel
theorem dX9_strips_10 : decode cX9_strips 10 = .ok (.aload_n 0, 1) := by decide +kernel
theorem dX9_strips_11 : decode cX9_strips 11 = .ok (.getfield 155, 3) := by decide +kernel
theorem dX9_strips_14 : decode cX9_strips 14 = .ok (.bipush 9, 2) := by decide +kernel
theorem dX9_strips_16 : decode cX9_strips 16 = .ok (.if_icmp .ge 59, 3) := by decide +kernel
theorem dX9_strips_19 : decode cX9_strips 19 = .ok (.aload_n 0, 1) := by decide +kernel
theorem dX9_strips_20 : decode cX9_strips 20 = .ok (.invokevirtual 147, 3) := by decide +kernel
theorem dX9_strips_23 : decode cX9_strips 23 = .ok (.i2l, 1) := by decide +kernel
theorem dX9_strips_24 : decode cX9_strips 24 = .ok (.ldc2_w 151, 3) := by decide +kernel
theorem dX9_strips_27 : decode cX9_strips 27 = .ok (.ldc2_w 158, 3) := by decide +kernel
theorem dX9_strips_30 : decode cX9_strips 30 = .ok (.invokestatic 75, 3) := by decide +kernel
theorem dX9_strips_33 : decode cX9_strips 33 = .ok (.ifCond .eq 42, 3) := by decide +kernel
theorem dX9_strips_36 : decode cX9_strips 36 = .ok (.aload_n 0, 1) := by decide +kernel
theorem dX9_strips_37 : decode cX9_strips 37 = .ok (.getfield 34, 3) := by decide +kernel
theorem dX9_strips_40 : decode cX9_strips 40 = .ok (.aload_n 0, 1) := by decide +kernel
theorem dX9_strips_41 : decode cX9_strips 41 = .ok (.getfield 155, 3) := by decide +kernel
theorem dX9_strips_44 : decode cX9_strips 44 = .ok (.aload_n 0, 1) := by decide +kernel
theorem dX9_strips_45 : decode cX9_strips 45 = .ok (.invokevirtual 147, 3) := by decide +kernel
theorem dX9_strips_48 : decode cX9_strips 48 = .ok (.bipush 48, 2) := by decide +kernel
theorem dX9_strips_50 : decode cX9_strips 50 = .ok (.isub, 1) := by decide +kernel
theorem dX9_strips_51 : decode cX9_strips 51 = .ok (.iastore, 1) := by decide +kernel
theorem dX9_strips_52 : decode cX9_strips 52 = .ok (.aload_n 0, 1) := by decide +kernel
theorem dX9_strips_53 : decode cX9_strips 53 = .ok (.dup, 1) := by decide +kernel
theorem dX9_strips_54 : decode cX9_strips 54 = .ok (.getfield 155, 3) := by decide +kernel
theorem dX9_strips_57 : decode cX9_strips 57 = .ok (.iconst 1, 1) := by decide +kernel
theorem dX9_strips_58 : decode cX9_strips 58 = .ok (.iadd, 1) := by decide +kernel
theorem dX9_strips_59 : decode cX9_strips 59 = .ok (.putfield 155, 3) := by decide +kernel
theorem dX9_strips_62 : decode cX9_strips 62 = .ok (.aload_n 0, 1) := by decide +kernel
theorem dX9_strips_63 : decode cX9_strips 63 = .ok (.dup, 1) := by decide +kernel
theorem dX9_strips_64 : decode cX9_strips 64 = .ok (.getfield 144, 3) := by decide +kernel
theorem dX9_strips_67 : decode cX9_strips 67 = .ok (.iconst 1, 1) := by decide +kernel
theorem dX9_strips_68 : decode cX9_strips 68 = .ok (.iadd, 1) := by decide +kernel
theorem dX9_strips_69 : decode cX9_strips 69 = .ok (.putfield 144, 3) := by decide +kernel
theorem dX9_strips_72 : decode cX9_strips 72 = .ok (.goto (-62), 3) := by decide +kernel
theorem dX9_strips_75 : decode cX9_strips 75 = .ok (.aload_n 0, 1) := by decide +kernel
theorem dX9_strips_76 : decode cX9_strips 76 = .ok (.getfield 155, 3) := by decide +kernel
theorem dX9_strips_79 : decode cX9_strips 79 = .ok (.ifCond .le 14, 3) := by decide +kernel
theorem dX9_strips_82 : decode cX9_strips 82 = .ok (.aload_n 0, 1) := by decide +kernel
theorem dX9_strips_83 : decode cX9_strips 83 = .ok (.invokevirtual 147, 3) := by decide +kernel
theorem dX9_strips_86 : decode cX9_strips 86 = .ok (.ifCond .ge 7, 3) := by decide +kernel
theorem dX9_strips_89 : decode cX9_strips 89 = .ok (.iconst 1, 1) := by decide +kernel
theorem dX9_strips_90 : decode cX9_strips 90 = .ok (.goto 4, 3) := by decide +kernel
theorem dX9_strips_93 : decode cX9_strips 93 = .ok (.iconst 0, 1) := by decide +kernel
theorem dX9_strips_94 : decode cX9_strips 94 = .ok (.istore_n 1, 1) := by decide +kernel
theorem dX9_strips_95 : decode cX9_strips 95 = .ok (.aload_n 0, 1) := by decide +kernel
theorem dX9_strips_96 : decode cX9_strips 96 = .ok (.iconst 0, 1) := by decide +kernel
theorem dX9_strips_97 : decode cX9_strips 97 = .ok (.putfield 141, 3) := by decide +kernel
theorem dX9_strips_100 : decode cX9_strips 100 = .ok (.iload_n 1, 1) := by decide +kernel
theorem dX9_strips_101 : decode cX9_strips 101 = .ok (.ifCond .ne 11, 3) := by decide +kernel
theorem dX9_strips_104 : decode cX9_strips 104 = .ok (.bipush (-20), 2) := by decide +kernel
theorem dX9_strips_106 : decode cX9_strips 106 = .ok (.aload_n 0, 1) := by decide +kernel
theorem dX9_strips_107 : decode cX9_strips 107 = .ok (.getfield 144, 3) := by decide +kernel
theorem dX9_strips_110 : decode cX9_strips 110 = .ok (.isub, 1) := by decide +kernel
theorem dX9_strips_111 : decode cX9_strips 111 = .ok (.ireturn, 1) := by decide +kernel
theorem dX9_strips_112 : decode cX9_strips 112 = .ok (.aload_n 0, 1) := by decide +kernel
theorem dX9_strips_113 : decode cX9_strips 113 = .ok (.iconst 0, 1) := by decide +kernel
theorem dX9_strips_114 : decode cX9_strips 114 = .ok (.putfield 71, 3) := by decide +kernel
theorem dX9_strips_117 : decode cX9_strips 117 = .ok (.iconst 0, 1) := by decide +kernel
theorem dX9_strips_118 : decode cX9_strips 118 = .ok (.istore_n 2, 1) := by decide +kernel
theorem dX9_strips_119 : decode cX9_strips 119 = .ok (.iload_n 2, 1) := by decide +kernel
theorem dX9_strips_120 : decode cX9_strips 120 = .ok (.aload_n 0, 1) := by decide +kernel
theorem dX9_strips_121 : decode cX9_strips 121 = .ok (.getfield 155, 3) := by decide +kernel
theorem dX9_strips_124 : decode cX9_strips 124 = .ok (.if_icmp .ge 19, 3) := by decide +kernel
theorem dX9_strips_127 : decode cX9_strips 127 = .ok (.aload_n 0, 1) := by decide +kernel
theorem dX9_strips_128 : decode cX9_strips 128 = .ok (.aload_n 0, 1) := by decide +kernel
theorem dX9_strips_129 : decode cX9_strips 129 = .ok (.getfield 34, 3) := by decide +kernel
theorem dX9_strips_132 : decode cX9_strips 132 = .ok (.iload_n 2, 1) := by decide +kernel
theorem dX9_strips_133 : decode cX9_strips 133 = .ok (.iaload, 1) := by decide +kernel
theorem dX9_strips_134 : decode cX9_strips 134 = .ok (.invokevirtual 88, 3) := by decide +kernel
theorem dX9_strips_137 : decode cX9_strips 137 = .ok (.iinc 2 1, 3) := by decide +kernel
theorem dX9_strips_140 : decode cX9_strips 140 = .ok (.goto (-21), 3) := by decide +kernel
theorem dX9_strips_143 : decode cX9_strips 143 = .ok (.aload_n 0, 1) := by decide +kernel
theorem dX9_strips_144 : decode cX9_strips 144 = .ok (.getfield 71, 3) := by decide +kernel
theorem dX9_strips_147 : decode cX9_strips 147 = .ok (.ireturn, 1) := by decide +kernel
theorem dX9_readWord_0 : decode cX9_readWord 0 = .ok (.iconst 0, 1) := by decide +kernel
theorem dX9_readWord_1 : decode cX9_readWord 1 = .ok (.istore_n 2, 1) := by decide +kernel
theorem dX9_readWord_2 : decode cX9_readWord 2 = .ok (.iload_n 2, 1) := by decide +kernel
theorem dX9_readWord_3 : decode cX9_readWord 3 = .ok (.bipush 6, 2) := by decide +kernel
theorem dX9_readWord_5 : decode cX9_readWord 5 = .ok (.if_icmp .ge 53, 3) := by decide +kernel
theorem dX9_readWord_8 : decode cX9_readWord 8 = .ok (.aload_n 0, 1) := by decide +kernel
theorem dX9_readWord_9 : decode cX9_readWord 9 = .ok (.invokevirtual 147, 3) := by decide +kernel
theorem dX9_readWord_12 : decode cX9_readWord 12 = .ok (.i2l, 1) := by decide +kernel
theorem dX9_readWord_13 : decode cX9_readWord 13 = .ok (.ldc2_w 160, 3) := by decide +kernel
theorem dX9_readWord_16 : decode cX9_readWord 16 = .ok (.ldc2_w 162, 3) := by decide +kernel
theorem dX9_readWord_19 : decode cX9_readWord 19 = .ok (.invokestatic 75, 3) := by decide +kernel
theorem dX9_readWord_22 : decode cX9_readWord 22 = .ok (.ifCond .eq 36, 3) := by decide +kernel
theorem dX9_readWord_25 : decode cX9_readWord 25 = .ok (.aload_n 0, 1) := by decide +kernel
theorem dX9_readWord_26 : decode cX9_readWord 26 = .ok (.getfield 34, 3) := by decide +kernel
theorem dX9_readWord_29 : decode cX9_readWord 29 = .ok (.iload_n 1, 1) := by decide +kernel
theorem dX9_readWord_30 : decode cX9_readWord 30 = .ok (.iconst 2, 1) := by decide +kernel
theorem dX9_readWord_31 : decode cX9_readWord 31 = .ok (.iadd, 1) := by decide +kernel
theorem dX9_readWord_32 : decode cX9_readWord 32 = .ok (.iload_n 2, 1) := by decide +kernel
theorem dX9_readWord_33 : decode cX9_readWord 33 = .ok (.iadd, 1) := by decide +kernel
theorem dX9_readWord_34 : decode cX9_readWord 34 = .ok (.aload_n 0, 1) := by decide +kernel
theorem dX9_readWord_35 : decode cX9_readWord 35 = .ok (.invokevirtual 147, 3) := by decide +kernel
theorem dX9_readWord_38 : decode cX9_readWord 38 = .ok (.bipush 97, 2) := by decide +kernel
theorem dX9_readWord_40 : decode cX9_readWord 40 = .ok (.isub, 1) := by decide +kernel
theorem dX9_readWord_41 : decode cX9_readWord 41 = .ok (.iastore, 1) := by decide +kernel
theorem dX9_readWord_42 : decode cX9_readWord 42 = .ok (.iinc 2 1, 3) := by decide +kernel
theorem dX9_readWord_45 : decode cX9_readWord 45 = .ok (.aload_n 0, 1) := by decide +kernel
theorem dX9_readWord_46 : decode cX9_readWord 46 = .ok (.dup, 1) := by decide +kernel
theorem dX9_readWord_47 : decode cX9_readWord 47 = .ok (.getfield 144, 3) := by decide +kernel
theorem dX9_readWord_50 : decode cX9_readWord 50 = .ok (.iconst 1, 1) := by decide +kernel
theorem dX9_readWord_51 : decode cX9_readWord 51 = .ok (.iadd, 1) := by decide +kernel
theorem dX9_readWord_52 : decode cX9_readWord 52 = .ok (.putfield 144, 3) := by decide +kernel
theorem dX9_readWord_55 : decode cX9_readWord 55 = .ok (.goto (-53), 3) := by decide +kernel
theorem dX9_readWord_58 : decode cX9_readWord 58 = .ok (.aload_n 0, 1) := by decide +kernel
theorem dX9_readWord_59 : decode cX9_readWord 59 = .ok (.getfield 34, 3) := by decide +kernel
theorem dX9_readWord_62 : decode cX9_readWord 62 = .ok (.iload_n 1, 1) := by decide +kernel
theorem dX9_readWord_63 : decode cX9_readWord 63 = .ok (.iload_n 2, 1) := by decide +kernel
theorem dX9_readWord_64 : decode cX9_readWord 64 = .ok (.iastore, 1) := by decide +kernel
theorem dX9_readWord_65 : decode cX9_readWord 65 = .ok (.aload_n 0, 1) := by decide +kernel
theorem dX9_readWord_66 : decode cX9_readWord 66 = .ok (.getfield 34, 3) := by decide +kernel
theorem dX9_readWord_69 : decode cX9_readWord 69 = .ok (.iload_n 1, 1) := by decide +kernel
theorem dX9_readWord_70 : decode cX9_readWord 70 = .ok (.iconst 1, 1) := by decide +kernel
theorem dX9_readWord_71 : decode cX9_readWord 71 = .ok (.iadd, 1) := by decide +kernel
theorem dX9_readWord_72 : decode cX9_readWord 72 = .ok (.bipush 10, 2) := by decide +kernel
theorem dX9_readWord_74 : decode cX9_readWord 74 = .ok (.iastore, 1) := by decide +kernel
theorem dX9_readWord_75 : decode cX9_readWord 75 = .ok (.iload_n 2, 1) := by decide +kernel
theorem dX9_readWord_76 : decode cX9_readWord 76 = .ok (.ifCond .ne 5, 3) := by decide +kernel
theorem dX9_readWord_79 : decode cX9_readWord 79 = .ok (.iconst 0, 1) := by decide +kernel
theorem dX9_readWord_80 : decode cX9_readWord 80 = .ok (.ireturn, 1) := by decide +kernel
theorem dX9_readWord_81 : decode cX9_readWord 81 = .ok (.aload_n 0, 1) := by decide +kernel
theorem dX9_readWord_82 : decode cX9_readWord 82 = .ok (.invokevirtual 147, 3) := by decide +kernel
theorem dX9_readWord_85 : decode cX9_readWord 85 = .ok (.bipush 58, 2) := by decide +kernel
theorem dX9_readWord_87 : decode cX9_readWord 87 = .ok (.if_icmp .ne 28, 3) := by decide +kernel
theorem dX9_readWord_90 : decode cX9_readWord 90 = .ok (.aload_n 0, 1) := by decide +kernel
theorem dX9_readWord_91 : decode cX9_readWord 91 = .ok (.dup, 1) := by decide +kernel
theorem dX9_readWord_92 : decode cX9_readWord 92 = .ok (.getfield 144, 3) := by decide +kernel
theorem dX9_readWord_95 : decode cX9_readWord 95 = .ok (.iconst 1, 1) := by decide +kernel
theorem dX9_readWord_96 : decode cX9_readWord 96 = .ok (.iadd, 1) := by decide +kernel
theorem dX9_readWord_97 : decode cX9_readWord 97 = .ok (.putfield 144, 3) := by decide +kernel
theorem dX9_readWord_100 : decode cX9_readWord 100 = .ok (.aload_n 0, 1) := by decide +kernel
theorem dX9_readWord_101 : decode cX9_readWord 101 = .ok (.getfield 34, 3) := by decide +kernel
theorem dX9_readWord_104 : decode cX9_readWord 104 = .ok (.iload_n 1, 1) := by decide +kernel
theorem dX9_readWord_105 : decode cX9_readWord 105 = .ok (.iconst 1, 1) := by decide +kernel
theorem dX9_readWord_106 : decode cX9_readWord 106 = .ok (.iadd, 1) := by decide +kernel
theorem dX9_readWord_107 : decode cX9_readWord 107 = .ok (.aload_n 0, 1) := by decide +kernel
theorem dX9_readWord_108 : decode cX9_readWord 108 = .ok (.iconst 0, 1) := by decide +kernel
theorem dX9_readWord_109 : decode cX9_readWord 109 = .ok (.bipush 99, 2) := by decide +kernel
theorem dX9_readWord_111 : decode cX9_readWord 111 = .ok (.invokevirtual 164, 3) := by decide +kernel
theorem dX9_readWord_114 : decode cX9_readWord 114 = .ok (.iastore, 1) := by decide +kernel
theorem dX9_readWord_115 : decode cX9_readWord 115 = .ok (.aload_n 0, 1) := by decide +kernel
theorem dX9_readWord_116 : decode cX9_readWord 116 = .ok (.getfield 34, 3) := by decide +kernel
theorem dX9_readWord_119 : decode cX9_readWord 119 = .ok (.iload_n 1, 1) := by decide +kernel
theorem dX9_readWord_120 : decode cX9_readWord 120 = .ok (.iconst 1, 1) := by decide +kernel
theorem dX9_readWord_121 : decode cX9_readWord 121 = .ok (.iadd, 1) := by decide +kernel
theorem dX9_readWord_122 : decode cX9_readWord 122 = .ok (.iaload, 1) := by decide +kernel
theorem dX9_readWord_123 : decode cX9_readWord 123 = .ok (.ifCond .lt 7, 3) := by decide +kernel
theorem dX9_readWord_126 : decode cX9_readWord 126 = .ok (.iconst 1, 1) := by decide +kernel
theorem dX9_readWord_127 : decode cX9_readWord 127 = .ok (.goto 4, 3) := by decide +kernel
theorem dX9_readWord_130 : decode cX9_readWord 130 = .ok (.iconst 0, 1) := by decide +kernel
theorem dX9_readWord_131 : decode cX9_readWord 131 = .ok (.ireturn, 1) := by decide +kernel
theorem dX9_readWords_0 : decode cX9_readWords 0 = .ok (.aload_n 0, 1) := by decide +kernel
theorem dX9_readWords_1 : decode cX9_readWords 1 = .ok (.iconst 0, 1) := by decide +kernel
theorem dX9_readWords_2 : decode cX9_readWords 2 = .ok (.putfield 144, 3) := by decide +kernel
theorem dX9_readWords_5 : decode cX9_readWords 5 = .ok (.iconst 0, 1) := by decide +kernel
theorem dX9_readWords_6 : decode cX9_readWords 6 = .ok (.istore_n 1, 1) := by decide +kernel
theorem dX9_readWords_7 : decode cX9_readWords 7 = .ok (.iload_n 1, 1) := by decide +kernel
theorem dX9_readWords_8 : decode cX9_readWords 8 = .ok (.iconst 4, 1) := by decide +kernel
theorem dX9_readWords_9 : decode cX9_readWords 9 = .ok (.if_icmp .ge 63, 3) := by decide +kernel
theorem dX9_readWords_12 : decode cX9_readWords 12 = .ok (.aload_n 0, 1) := by decide +kernel
theorem dX9_readWords_13 : decode cX9_readWords 13 = .ok (.bipush 8, 2) := by decide +kernel
theorem dX9_readWords_15 : decode cX9_readWords 15 = .ok (.iload_n 1, 1) := by decide +kernel
theorem dX9_readWords_16 : decode cX9_readWords 16 = .ok (.imul, 1) := by decide +kernel
theorem dX9_readWords_17 : decode cX9_readWords 17 = .ok (.invokevirtual 167, 3) := by decide +kernel
theorem dX9_readWords_20 : decode cX9_readWords 20 = .ok (.ifCond .ne 5, 3) := by decide +kernel
theorem dX9_readWords_23 : decode cX9_readWords 23 = .ok (.iconst 0, 1) := by decide +kernel
theorem dX9_readWords_24 : decode cX9_readWords 24 = .ok (.ireturn, 1) := by decide +kernel
theorem dX9_readWords_25 : decode cX9_readWords 25 = .ok (.aload_n 0, 1) := by decide +kernel
theorem dX9_readWords_26 : decode cX9_readWords 26 = .ok (.iload_n 1, 1) := by decide +kernel
theorem dX9_readWords_27 : decode cX9_readWords 27 = .ok (.iconst 1, 1) := by decide +kernel
theorem dX9_readWords_28 : decode cX9_readWords 28 = .ok (.iadd, 1) := by decide +kernel
theorem dX9_readWords_29 : decode cX9_readWords 29 = .ok (.putfield 155, 3) := by decide +kernel
theorem dX9_readWords_32 : decode cX9_readWords 32 = .ok (.aload_n 0, 1) := by decide +kernel
theorem dX9_readWords_33 : decode cX9_readWords 33 = .ok (.invokevirtual 147, 3) := by decide +kernel
theorem dX9_readWords_36 : decode cX9_readWords 36 = .ok (.istore_n 2, 1) := by decide +kernel
theorem dX9_readWords_37 : decode cX9_readWords 37 = .ok (.iload_n 2, 1) := by decide +kernel
theorem dX9_readWords_38 : decode cX9_readWords 38 = .ok (.ifCond .ge 5, 3) := by decide +kernel
theorem dX9_readWords_41 : decode cX9_readWords 41 = .ok (.iconst 1, 1) := by decide +kernel
theorem dX9_readWords_42 : decode cX9_readWords 42 = .ok (.ireturn, 1) := by decide +kernel
theorem dX9_readWords_43 : decode cX9_readWords 43 = .ok (.iload_n 2, 1) := by decide +kernel
theorem dX9_readWords_44 : decode cX9_readWords 44 = .ok (.bipush 44, 2) := by decide +kernel
theorem dX9_readWords_46 : decode cX9_readWords 46 = .ok (.if_icmp .ne 8, 3) := by decide +kernel
theorem dX9_readWords_49 : decode cX9_readWords 49 = .ok (.iload_n 1, 1) := by decide +kernel
theorem dX9_readWords_50 : decode cX9_readWords 50 = .ok (.iconst 3, 1) := by decide +kernel
theorem dX9_readWords_51 : decode cX9_readWords 51 = .ok (.if_icmp .ne 5, 3) := by decide +kernel
theorem dX9_readWords_54 : decode cX9_readWords 54 = .ok (.iconst 0, 1) := by decide +kernel
theorem dX9_readWords_55 : decode cX9_readWords 55 = .ok (.ireturn, 1) := by decide +kernel
theorem dX9_readWords_56 : decode cX9_readWords 56 = .ok (.aload_n 0, 1) := by decide +kernel
theorem dX9_readWords_57 : decode cX9_readWords 57 = .ok (.dup, 1) := by decide +kernel
theorem dX9_readWords_58 : decode cX9_readWords 58 = .ok (.getfield 144, 3) := by decide +kernel
theorem dX9_readWords_61 : decode cX9_readWords 61 = .ok (.iconst 1, 1) := by decide +kernel
theorem dX9_readWords_62 : decode cX9_readWords 62 = .ok (.iadd, 1) := by decide +kernel
theorem dX9_readWords_63 : decode cX9_readWords 63 = .ok (.putfield 144, 3) := by decide +kernel
theorem dX9_readWords_66 : decode cX9_readWords 66 = .ok (.iinc 1 1, 3) := by decide +kernel
theorem dX9_readWords_69 : decode cX9_readWords 69 = .ok (.goto (-62), 3) := by decide +kernel
theorem dX9_readWords_72 : decode cX9_readWords 72 = .ok (.iconst 0, 1) := by decide +kernel
theorem dX9_readWords_73 : decode cX9_readWords 73 = .ok (.ireturn, 1) := by decide +kernel
theorem dX9_words_0 : decode cX9_words 0 = .ok (.aload_n 0, 1) := by decide +kernel
theorem dX9_words_1 : decode cX9_words 1 = .ok (.invokevirtual 170, 3) := by decide +kernel
theorem dX9_words_4 : decode cX9_words 4 = .ok (.istore_n 1, 1) := by decide +kernel
theorem dX9_words_5 : decode cX9_words 5 = .ok (.aload_n 0, 1) := by decide +kernel
theorem dX9_words_6 : decode cX9_words 6 = .ok (.iconst 0, 1) := by decide +kernel
theorem dX9_words_7 : decode cX9_words 7 = .ok (.putfield 141, 3) := by decide +kernel
theorem dX9_words_10 : decode cX9_words 10 = .ok (.iload_n 1, 1) := by decide +kernel
theorem dX9_words_11 : decode cX9_words 11 = .ok (.ifCond .ne 11, 3) := by decide +kernel
theorem dX9_words_14 : decode cX9_words 14 = .ok (.bipush (-20), 2) := by decide +kernel
theorem dX9_words_16 : decode cX9_words 16 = .ok (.aload_n 0, 1) := by decide +kernel
theorem dX9_words_17 : decode cX9_words 17 = .ok (.getfield 144, 3) := by decide +kernel
theorem dX9_words_20 : decode cX9_words 20 = .ok (.isub, 1) := by decide +kernel
theorem dX9_words_21 : decode cX9_words 21 = .ok (.ireturn, 1) := by decide +kernel
theorem dX9_words_22 : decode cX9_words 22 = .ok (.aload_n 0, 1) := by decide +kernel
theorem dX9_words_23 : decode cX9_words 23 = .ok (.getfield 83, 3) := by decide +kernel
theorem dX9_words_26 : decode cX9_words 26 = .ok (.aload_n 0, 1) := by decide +kernel
theorem dX9_words_27 : decode cX9_words 27 = .ok (.getfield 155, 3) := by decide +kernel
theorem dX9_words_30 : decode cX9_words 30 = .ok (.iadd, 1) := by decide +kernel
theorem dX9_words_31 : decode cX9_words 31 = .ok (.bipush 10, 2) := by decide +kernel
theorem dX9_words_33 : decode cX9_words 33 = .ok (.if_icmp .le 6, 3) := by decide +kernel
theorem dX9_words_36 : decode cX9_words 36 = .ok (.bipush (-3), 2) := by decide +kernel
theorem dX9_words_38 : decode cX9_words 38 = .ok (.ireturn, 1) := by decide +kernel
theorem dX9_words_39 : decode cX9_words 39 = .ok (.iconst 0, 1) := by decide +kernel
theorem dX9_words_40 : decode cX9_words 40 = .ok (.istore_n 2, 1) := by decide +kernel
theorem dX9_words_41 : decode cX9_words 41 = .ok (.iload_n 2, 1) := by decide +kernel
theorem dX9_words_42 : decode cX9_words 42 = .ok (.bipush 8, 2) := by decide +kernel
theorem dX9_words_44 : decode cX9_words 44 = .ok (.aload_n 0, 1) := by decide +kernel
theorem dX9_words_45 : decode cX9_words 45 = .ok (.getfield 155, 3) := by decide +kernel
theorem dX9_words_48 : decode cX9_words 48 = .ok (.imul, 1) := by decide +kernel
theorem dX9_words_49 : decode cX9_words 49 = .ok (.if_icmp .ge 29, 3) := by decide +kernel
theorem dX9_words_52 : decode cX9_words 52 = .ok (.aload_n 0, 1) := by decide +kernel
theorem dX9_words_53 : decode cX9_words 53 = .ok (.getfield 28, 3) := by decide +kernel
theorem dX9_words_56 : decode cX9_words 56 = .ok (.bipush 8, 2) := by decide +kernel
theorem dX9_words_58 : decode cX9_words 58 = .ok (.aload_n 0, 1) := by decide +kernel
theorem dX9_words_59 : decode cX9_words 59 = .ok (.getfield 83, 3) := by decide +kernel
theorem dX9_words_62 : decode cX9_words 62 = .ok (.imul, 1) := by decide +kernel
theorem dX9_words_63 : decode cX9_words 63 = .ok (.iload_n 2, 1) := by decide +kernel
theorem dX9_words_64 : decode cX9_words 64 = .ok (.iadd, 1) := by decide +kernel
theorem dX9_words_65 : decode cX9_words 65 = .ok (.aload_n 0, 1) := by decide +kernel
theorem dX9_words_66 : decode cX9_words 66 = .ok (.getfield 34, 3) := by decide +kernel
theorem dX9_words_69 : decode cX9_words 69 = .ok (.iload_n 2, 1) := by decide +kernel
theorem dX9_words_70 : decode cX9_words 70 = .ok (.iaload, 1) := by decide +kernel
theorem dX9_words_71 : decode cX9_words 71 = .ok (.iastore, 1) := by decide +kernel
theorem dX9_words_72 : decode cX9_words 72 = .ok (.iinc 2 1, 3) := by decide +kernel
theorem dX9_words_75 : decode cX9_words 75 = .ok (.goto (-34), 3) := by decide +kernel
theorem dX9_words_78 : decode cX9_words 78 = .ok (.aload_n 0, 1) := by decide +kernel
theorem dX9_words_79 : decode cX9_words 79 = .ok (.dup, 1) := by decide +kernel
theorem dX9_words_80 : decode cX9_words 80 = .ok (.getfield 83, 3) := by decide +kernel
theorem dX9_words_83 : decode cX9_words 83 = .ok (.aload_n 0, 1) := by decide +kernel
theorem dX9_words_84 : decode cX9_words 84 = .ok (.getfield 155, 3) := by decide +kernel
theorem dX9_words_87 : decode cX9_words 87 = .ok (.iadd, 1) := by decide +kernel
theorem dX9_words_88 : decode cX9_words 88 = .ok (.putfield 83, 3) := by decide +kernel
theorem dX9_words_91 : decode cX9_words 91 = .ok (.aload_n 0, 1) := by decide +kernel
theorem dX9_words_92 : decode cX9_words 92 = .ok (.getfield 155, 3) := by decide +kernel
theorem dX9_words_95 : decode cX9_words 95 = .ok (.ireturn, 1) := by decide +kernel
theorem dX9_told_0 : decode cX9_told 0 = .ok (.aload_n 0, 1) := by decide +kernel
theorem dX9_told_1 : decode cX9_told 1 = .ok (.iload_n 1, 1) := by decide +kernel
theorem dX9_told_2 : decode cX9_told 2 = .ok (.invokevirtual 174, 3) := by decide +kernel
theorem dX9_told_5 : decode cX9_told 5 = .ok (.ifCond .eq 9, 3) := by decide +kernel
theorem dX9_told_8 : decode cX9_told 8 = .ok (.iload_n 2, 1) := by decide +kernel
theorem dX9_told_9 : decode cX9_told 9 = .ok (.bipush (-2), 2) := by decide +kernel
theorem dX9_told_11 : decode cX9_told 11 = .ok (.if_icmp .ge 5, 3) := by decide +kernel
theorem dX9_told_14 : decode cX9_told 14 = .ok (.iconst (-1), 1) := by decide +kernel
theorem dX9_told_15 : decode cX9_told 15 = .ok (.ireturn, 1) := by decide +kernel
theorem dX9_told_16 : decode cX9_told 16 = .ok (.aload_n 0, 1) := by decide +kernel
theorem dX9_told_17 : decode cX9_told 17 = .ok (.getfield 28, 3) := by decide +kernel
theorem dX9_told_20 : decode cX9_told 20 = .ok (.bipush 8, 2) := by decide +kernel
theorem dX9_told_22 : decode cX9_told 22 = .ok (.iload_n 1, 1) := by decide +kernel
theorem dX9_told_23 : decode cX9_told 23 = .ok (.imul, 1) := by decide +kernel
theorem dX9_told_24 : decode cX9_told 24 = .ok (.iaload, 1) := by decide +kernel
theorem dX9_told_25 : decode cX9_told 25 = .ok (.istore_n 3, 1) := by decide +kernel
theorem dX9_told_26 : decode cX9_told 26 = .ok (.iload_n 2, 1) := by decide +kernel
theorem dX9_told_27 : decode cX9_told 27 = .ok (.iconst (-1), 1) := by decide +kernel
theorem dX9_told_28 : decode cX9_told 28 = .ok (.if_icmp .ne 7, 3) := by decide +kernel
theorem dX9_told_31 : decode cX9_told 31 = .ok (.iload_n 3, 1) := by decide +kernel
theorem dX9_told_32 : decode cX9_told 32 = .ok (.goto 46, 3) := by decide +kernel
theorem dX9_told_35 : decode cX9_told 35 = .ok (.iload_n 2, 1) := by decide +kernel
theorem dX9_told_36 : decode cX9_told 36 = .ok (.bipush (-2), 2) := by decide +kernel
theorem dX9_told_38 : decode cX9_told 38 = .ok (.if_icmp .ne 17, 3) := by decide +kernel
theorem dX9_told_41 : decode cX9_told 41 = .ok (.aload_n 0, 1) := by decide +kernel
theorem dX9_told_42 : decode cX9_told 42 = .ok (.getfield 28, 3) := by decide +kernel
theorem dX9_told_45 : decode cX9_told 45 = .ok (.bipush 8, 2) := by decide +kernel
theorem dX9_told_47 : decode cX9_told 47 = .ok (.iload_n 1, 1) := by decide +kernel
theorem dX9_told_48 : decode cX9_told 48 = .ok (.imul, 1) := by decide +kernel
theorem dX9_told_49 : decode cX9_told 49 = .ok (.iconst 1, 1) := by decide +kernel
theorem dX9_told_50 : decode cX9_told 50 = .ok (.iadd, 1) := by decide +kernel
theorem dX9_told_51 : decode cX9_told 51 = .ok (.iaload, 1) := by decide +kernel
theorem dX9_told_52 : decode cX9_told 52 = .ok (.goto 26, 3) := by decide +kernel
theorem dX9_told_55 : decode cX9_told 55 = .ok (.iload_n 2, 1) := by decide +kernel
theorem dX9_told_56 : decode cX9_told 56 = .ok (.iload_n 3, 1) := by decide +kernel
theorem dX9_told_57 : decode cX9_told 57 = .ok (.if_icmp .ge 19, 3) := by decide +kernel
theorem dX9_told_60 : decode cX9_told 60 = .ok (.aload_n 0, 1) := by decide +kernel
theorem dX9_told_61 : decode cX9_told 61 = .ok (.getfield 28, 3) := by decide +kernel
theorem dX9_told_64 : decode cX9_told 64 = .ok (.bipush 8, 2) := by decide +kernel
theorem dX9_told_66 : decode cX9_told 66 = .ok (.iload_n 1, 1) := by decide +kernel
theorem dX9_told_67 : decode cX9_told 67 = .ok (.imul, 1) := by decide +kernel
theorem dX9_told_68 : decode cX9_told 68 = .ok (.iconst 2, 1) := by decide +kernel
theorem dX9_told_69 : decode cX9_told 69 = .ok (.iadd, 1) := by decide +kernel
theorem dX9_told_70 : decode cX9_told 70 = .ok (.iload_n 2, 1) := by decide +kernel
theorem dX9_told_71 : decode cX9_told 71 = .ok (.iadd, 1) := by decide +kernel
theorem dX9_told_72 : decode cX9_told 72 = .ok (.iaload, 1) := by decide +kernel
theorem dX9_told_73 : decode cX9_told 73 = .ok (.goto 5, 3) := by decide +kernel
theorem dX9_told_76 : decode cX9_told 76 = .ok (.bipush (-4), 2) := by decide +kernel
theorem dX9_told_78 : decode cX9_told 78 = .ok (.ireturn, 1) := by decide +kernel
theorem dX9_pay_0 : decode cX9_pay 0 = .ok (.aload_n 0, 1) := by decide +kernel
theorem dX9_pay_1 : decode cX9_pay 1 = .ok (.iload_n 1, 1) := by decide +kernel
theorem dX9_pay_2 : decode cX9_pay 2 = .ok (.invokevirtual 174, 3) := by decide +kernel
theorem dX9_pay_5 : decode cX9_pay 5 = .ok (.ifCond .eq 15, 3) := by decide +kernel
theorem dX9_pay_8 : decode cX9_pay 8 = .ok (.iload_n 2, 1) := by decide +kernel
theorem dX9_pay_9 : decode cX9_pay 9 = .ok (.i2l, 1) := by decide +kernel
theorem dX9_pay_10 : decode cX9_pay 10 = .ok (.lconst 0, 1) := by decide +kernel
theorem dX9_pay_11 : decode cX9_pay 11 = .ok (.ldc2_w 177, 3) := by decide +kernel
theorem dX9_pay_14 : decode cX9_pay 14 = .ok (.invokestatic 75, 3) := by decide +kernel
theorem dX9_pay_17 : decode cX9_pay 17 = .ok (.ifCond .ne 5, 3) := by decide +kernel
theorem dX9_pay_20 : decode cX9_pay 20 = .ok (.iconst (-1), 1) := by decide +kernel
theorem dX9_pay_21 : decode cX9_pay 21 = .ok (.ireturn, 1) := by decide +kernel
theorem dX9_pay_22 : decode cX9_pay 22 = .ok (.aload_n 0, 1) := by decide +kernel
theorem dX9_pay_23 : decode cX9_pay 23 = .ok (.getfield 28, 3) := by decide +kernel
theorem dX9_pay_26 : decode cX9_pay 26 = .ok (.bipush 8, 2) := by decide +kernel
theorem dX9_pay_28 : decode cX9_pay 28 = .ok (.iload_n 1, 1) := by decide +kernel
theorem dX9_pay_29 : decode cX9_pay 29 = .ok (.imul, 1) := by decide +kernel
theorem dX9_pay_30 : decode cX9_pay 30 = .ok (.iconst 1, 1) := by decide +kernel
theorem dX9_pay_31 : decode cX9_pay 31 = .ok (.iadd, 1) := by decide +kernel
theorem dX9_pay_32 : decode cX9_pay 32 = .ok (.iaload, 1) := by decide +kernel
theorem dX9_pay_33 : decode cX9_pay 33 = .ok (.istore_n 3, 1) := by decide +kernel
theorem dX9_pay_34 : decode cX9_pay 34 = .ok (.aload_n 0, 1) := by decide +kernel
theorem dX9_pay_35 : decode cX9_pay 35 = .ok (.getfield 28, 3) := by decide +kernel
theorem dX9_pay_38 : decode cX9_pay 38 = .ok (.bipush 8, 2) := by decide +kernel
theorem dX9_pay_40 : decode cX9_pay 40 = .ok (.iload_n 1, 1) := by decide +kernel
theorem dX9_pay_41 : decode cX9_pay 41 = .ok (.imul, 1) := by decide +kernel
theorem dX9_pay_42 : decode cX9_pay 42 = .ok (.iconst 1, 1) := by decide +kernel
theorem dX9_pay_43 : decode cX9_pay 43 = .ok (.iadd, 1) := by decide +kernel
theorem dX9_pay_44 : decode cX9_pay 44 = .ok (.iload_n 2, 1) := by decide +kernel
theorem dX9_pay_45 : decode cX9_pay 45 = .ok (.iastore, 1) := by decide +kernel
theorem dX9_pay_46 : decode cX9_pay 46 = .ok (.iload_n 3, 1) := by decide +kernel
theorem dX9_pay_47 : decode cX9_pay 47 = .ok (.ireturn, 1) := by decide +kernel
theorem dX9_feud_0 : decode cX9_feud 0 = .ok (.iload_n 1, 1) := by decide +kernel
theorem dX9_feud_1 : decode cX9_feud 1 = .ok (.i2l, 1) := by decide +kernel
theorem dX9_feud_2 : decode cX9_feud 2 = .ok (.lconst 0, 1) := by decide +kernel
theorem dX9_feud_3 : decode cX9_feud 3 = .ok (.ldc2_w 86, 3) := by decide +kernel
theorem dX9_feud_6 : decode cX9_feud 6 = .ok (.invokestatic 75, 3) := by decide +kernel
theorem dX9_feud_9 : decode cX9_feud 9 = .ok (.ifCond .eq 20, 3) := by decide +kernel
theorem dX9_feud_12 : decode cX9_feud 12 = .ok (.iload_n 2, 1) := by decide +kernel
theorem dX9_feud_13 : decode cX9_feud 13 = .ok (.i2l, 1) := by decide +kernel
theorem dX9_feud_14 : decode cX9_feud 14 = .ok (.lconst 0, 1) := by decide +kernel
theorem dX9_feud_15 : decode cX9_feud 15 = .ok (.ldc2_w 86, 3) := by decide +kernel
theorem dX9_feud_18 : decode cX9_feud 18 = .ok (.invokestatic 75, 3) := by decide +kernel
theorem dX9_feud_21 : decode cX9_feud 21 = .ok (.ifCond .eq 8, 3) := by decide +kernel
theorem dX9_feud_24 : decode cX9_feud 24 = .ok (.iload_n 1, 1) := by decide +kernel
theorem dX9_feud_25 : decode cX9_feud 25 = .ok (.iload_n 2, 1) := by decide +kernel
theorem dX9_feud_26 : decode cX9_feud 26 = .ok (.if_icmp .ne 5, 3) := by decide +kernel
theorem dX9_feud_29 : decode cX9_feud 29 = .ok (.iconst (-1), 1) := by decide +kernel
theorem dX9_feud_30 : decode cX9_feud 30 = .ok (.ireturn, 1) := by decide +kernel
theorem dX9_feud_31 : decode cX9_feud 31 = .ok (.aload_n 0, 1) := by decide +kernel
theorem dX9_feud_32 : decode cX9_feud 32 = .ok (.getfield 25, 3) := by decide +kernel
theorem dX9_feud_35 : decode cX9_feud 35 = .ok (.bipush 6, 2) := by decide +kernel
theorem dX9_feud_37 : decode cX9_feud 37 = .ok (.iload_n 1, 1) := by decide +kernel
theorem dX9_feud_38 : decode cX9_feud 38 = .ok (.imul, 1) := by decide +kernel
theorem dX9_feud_39 : decode cX9_feud 39 = .ok (.iload_n 2, 1) := by decide +kernel
theorem dX9_feud_40 : decode cX9_feud 40 = .ok (.iadd, 1) := by decide +kernel
theorem dX9_feud_41 : decode cX9_feud 41 = .ok (.iaload, 1) := by decide +kernel
theorem dX9_feud_42 : decode cX9_feud 42 = .ok (.istore 4, 2) := by decide +kernel
theorem dX9_feud_44 : decode cX9_feud 44 = .ok (.aload_n 0, 1) := by decide +kernel
theorem dX9_feud_45 : decode cX9_feud 45 = .ok (.getfield 25, 3) := by decide +kernel
theorem dX9_feud_48 : decode cX9_feud 48 = .ok (.bipush 6, 2) := by decide +kernel
theorem dX9_feud_50 : decode cX9_feud 50 = .ok (.iload_n 1, 1) := by decide +kernel
theorem dX9_feud_51 : decode cX9_feud 51 = .ok (.imul, 1) := by decide +kernel
theorem dX9_feud_52 : decode cX9_feud 52 = .ok (.iload_n 2, 1) := by decide +kernel
theorem dX9_feud_53 : decode cX9_feud 53 = .ok (.iadd, 1) := by decide +kernel
theorem dX9_feud_54 : decode cX9_feud 54 = .ok (.iload_n 3, 1) := by decide +kernel
theorem dX9_feud_55 : decode cX9_feud 55 = .ok (.ifCond .eq 7, 3) := by decide +kernel
theorem dX9_feud_58 : decode cX9_feud 58 = .ok (.iconst 1, 1) := by decide +kernel
theorem dX9_feud_59 : decode cX9_feud 59 = .ok (.goto 4, 3) := by decide +kernel
theorem dX9_feud_62 : decode cX9_feud 62 = .ok (.iconst 0, 1) := by decide +kernel
theorem dX9_feud_63 : decode cX9_feud 63 = .ok (.iastore, 1) := by decide +kernel
theorem dX9_feud_64 : decode cX9_feud 64 = .ok (.aload_n 0, 1) := by decide +kernel
theorem dX9_feud_65 : decode cX9_feud 65 = .ok (.getfield 25, 3) := by decide +kernel
theorem dX9_feud_68 : decode cX9_feud 68 = .ok (.bipush 6, 2) := by decide +kernel
theorem dX9_feud_70 : decode cX9_feud 70 = .ok (.iload_n 2, 1) := by decide +kernel
theorem dX9_feud_71 : decode cX9_feud 71 = .ok (.imul, 1) := by decide +kernel
theorem dX9_feud_72 : decode cX9_feud 72 = .ok (.iload_n 1, 1) := by decide +kernel
theorem dX9_feud_73 : decode cX9_feud 73 = .ok (.iadd, 1) := by decide +kernel
theorem dX9_feud_74 : decode cX9_feud 74 = .ok (.iload_n 3, 1) := by decide +kernel
theorem dX9_feud_75 : decode cX9_feud 75 = .ok (.ifCond .eq 7, 3) := by decide +kernel
theorem dX9_feud_78 : decode cX9_feud 78 = .ok (.iconst 1, 1) := by decide +kernel
theorem dX9_feud_79 : decode cX9_feud 79 = .ok (.goto 4, 3) := by decide +kernel
theorem dX9_feud_82 : decode cX9_feud 82 = .ok (.iconst 0, 1) := by decide +kernel
theorem dX9_feud_83 : decode cX9_feud 83 = .ok (.iastore, 1) := by decide +kernel
theorem dX9_feud_84 : decode cX9_feud 84 = .ok (.iload 4, 2) := by decide +kernel
theorem dX9_feud_86 : decode cX9_feud 86 = .ok (.ireturn, 1) := by decide +kernel
theorem dX9_count_0 : decode cX9_count 0 = .ok (.iconst 0, 1) := by decide +kernel
theorem dX9_count_1 : decode cX9_count 1 = .ok (.istore_n 2, 1) := by decide +kernel
theorem dX9_count_2 : decode cX9_count 2 = .ok (.iconst 0, 1) := by decide +kernel
theorem dX9_count_3 : decode cX9_count 3 = .ok (.istore_n 3, 1) := by decide +kernel
theorem dX9_count_4 : decode cX9_count 4 = .ok (.iload_n 3, 1) := by decide +kernel
theorem dX9_count_5 : decode cX9_count 5 = .ok (.bipush 36, 2) := by decide +kernel
theorem dX9_count_7 : decode cX9_count 7 = .ok (.if_icmp .ge 18, 3) := by decide +kernel
theorem dX9_count_10 : decode cX9_count 10 = .ok (.iload_n 2, 1) := by decide +kernel
theorem dX9_count_11 : decode cX9_count 11 = .ok (.aload_n 0, 1) := by decide +kernel
theorem dX9_count_12 : decode cX9_count 12 = .ok (.getfield 25, 3) := by decide +kernel
theorem dX9_count_15 : decode cX9_count 15 = .ok (.iload_n 3, 1) := by decide +kernel
theorem dX9_count_16 : decode cX9_count 16 = .ok (.iaload, 1) := by decide +kernel
theorem dX9_count_17 : decode cX9_count 17 = .ok (.iadd, 1) := by decide +kernel
theorem dX9_count_18 : decode cX9_count 18 = .ok (.istore_n 2, 1) := by decide +kernel
theorem dX9_count_19 : decode cX9_count 19 = .ok (.iinc 3 1, 3) := by decide +kernel
theorem dX9_count_22 : decode cX9_count 22 = .ok (.goto (-18), 3) := by decide +kernel
theorem dX9_count_25 : decode cX9_count 25 = .ok (.iconst 0, 1) := by decide +kernel
theorem dX9_count_26 : decode cX9_count 26 = .ok (.istore_n 3, 1) := by decide +kernel
theorem dX9_count_27 : decode cX9_count 27 = .ok (.iconst 0, 1) := by decide +kernel
theorem dX9_count_28 : decode cX9_count 28 = .ok (.istore 4, 2) := by decide +kernel
theorem dX9_count_30 : decode cX9_count 30 = .ok (.iload 4, 2) := by decide +kernel
theorem dX9_count_32 : decode cX9_count 32 = .ok (.bipush 6, 2) := by decide +kernel
theorem dX9_count_34 : decode cX9_count 34 = .ok (.if_icmp .ge 19, 3) := by decide +kernel
theorem dX9_count_37 : decode cX9_count 37 = .ok (.iload_n 3, 1) := by decide +kernel
theorem dX9_count_38 : decode cX9_count 38 = .ok (.aload_n 0, 1) := by decide +kernel
theorem dX9_count_39 : decode cX9_count 39 = .ok (.getfield 19, 3) := by decide +kernel
theorem dX9_count_42 : decode cX9_count 42 = .ok (.iload 4, 2) := by decide +kernel
theorem dX9_count_44 : decode cX9_count 44 = .ok (.iaload, 1) := by decide +kernel
theorem dX9_count_45 : decode cX9_count 45 = .ok (.iadd, 1) := by decide +kernel
theorem dX9_count_46 : decode cX9_count 46 = .ok (.istore_n 3, 1) := by decide +kernel
theorem dX9_count_47 : decode cX9_count 47 = .ok (.iinc 4 1, 3) := by decide +kernel
theorem dX9_count_50 : decode cX9_count 50 = .ok (.goto (-20), 3) := by decide +kernel
theorem dX9_count_53 : decode cX9_count 53 = .ok (.iload_n 1, 1) := by decide +kernel
theorem dX9_count_54 : decode cX9_count 54 = .ok (.ifCond .ne 10, 3) := by decide +kernel
theorem dX9_count_57 : decode cX9_count 57 = .ok (.aload_n 0, 1) := by decide +kernel
theorem dX9_count_58 : decode cX9_count 58 = .ok (.getfield 71, 3) := by decide +kernel
theorem dX9_count_61 : decode cX9_count 61 = .ok (.goto 36, 3) := by decide +kernel
theorem dX9_count_64 : decode cX9_count 64 = .ok (.iload_n 1, 1) := by decide +kernel
theorem dX9_count_65 : decode cX9_count 65 = .ok (.iconst 1, 1) := by decide +kernel
theorem dX9_count_66 : decode cX9_count 66 = .ok (.if_icmp .ne 10, 3) := by decide +kernel
theorem dX9_count_69 : decode cX9_count 69 = .ok (.aload_n 0, 1) := by decide +kernel
theorem dX9_count_70 : decode cX9_count 70 = .ok (.getfield 83, 3) := by decide +kernel
theorem dX9_count_73 : decode cX9_count 73 = .ok (.goto 24, 3) := by decide +kernel
theorem dX9_count_76 : decode cX9_count 76 = .ok (.iload_n 1, 1) := by decide +kernel
theorem dX9_count_77 : decode cX9_count 77 = .ok (.iconst 2, 1) := by decide +kernel
theorem dX9_count_78 : decode cX9_count 78 = .ok (.if_icmp .ne 9, 3) := by decide +kernel
theorem dX9_count_81 : decode cX9_count 81 = .ok (.iload_n 2, 1) := by decide +kernel
theorem dX9_count_82 : decode cX9_count 82 = .ok (.iconst 2, 1) := by decide +kernel
theorem dX9_count_83 : decode cX9_count 83 = .ok (.idiv, 1) := by decide +kernel
theorem dX9_count_84 : decode cX9_count 84 = .ok (.goto 13, 3) := by decide +kernel
theorem dX9_count_87 : decode cX9_count 87 = .ok (.iload_n 1, 1) := by decide +kernel
theorem dX9_count_88 : decode cX9_count 88 = .ok (.iconst 3, 1) := by decide +kernel
theorem dX9_count_89 : decode cX9_count 89 = .ok (.if_icmp .ne 7, 3) := by decide +kernel
theorem dX9_count_92 : decode cX9_count 92 = .ok (.iload_n 3, 1) := by decide +kernel
theorem dX9_count_93 : decode cX9_count 93 = .ok (.goto 4, 3) := by decide +kernel
theorem dX9_count_96 : decode cX9_count 96 = .ok (.iconst (-1), 1) := by decide +kernel
theorem dX9_count_97 : decode cX9_count 97 = .ok (.ireturn, 1) := by decide +kernel
theorem dX9_sizeOf_0 : decode cX9_sizeOf 0 = .ok (.aload_n 0, 1) := by decide +kernel
theorem dX9_sizeOf_1 : decode cX9_sizeOf 1 = .ok (.getfield 28, 3) := by decide +kernel
theorem dX9_sizeOf_4 : decode cX9_sizeOf 4 = .ok (.bipush 8, 2) := by decide +kernel
theorem dX9_sizeOf_6 : decode cX9_sizeOf 6 = .ok (.iload_n 1, 1) := by decide +kernel
theorem dX9_sizeOf_7 : decode cX9_sizeOf 7 = .ok (.imul, 1) := by decide +kernel
theorem dX9_sizeOf_8 : decode cX9_sizeOf 8 = .ok (.iaload, 1) := by decide +kernel
theorem dX9_sizeOf_9 : decode cX9_sizeOf 9 = .ok (.ireturn, 1) := by decide +kernel
theorem dX9_letterOf_0 : decode cX9_letterOf 0 = .ok (.aload_n 0, 1) := by decide +kernel
theorem dX9_letterOf_1 : decode cX9_letterOf 1 = .ok (.getfield 28, 3) := by decide +kernel
theorem dX9_letterOf_4 : decode cX9_letterOf 4 = .ok (.bipush 8, 2) := by decide +kernel
theorem dX9_letterOf_6 : decode cX9_letterOf 6 = .ok (.iload_n 1, 1) := by decide +kernel
theorem dX9_letterOf_7 : decode cX9_letterOf 7 = .ok (.imul, 1) := by decide +kernel
theorem dX9_letterOf_8 : decode cX9_letterOf 8 = .ok (.iconst 2, 1) := by decide +kernel
theorem dX9_letterOf_9 : decode cX9_letterOf 9 = .ok (.iadd, 1) := by decide +kernel
theorem dX9_letterOf_10 : decode cX9_letterOf 10 = .ok (.iload_n 2, 1) := by decide +kernel
theorem dX9_letterOf_11 : decode cX9_letterOf 11 = .ok (.iadd, 1) := by decide +kernel
theorem dX9_letterOf_12 : decode cX9_letterOf 12 = .ok (.iaload, 1) := by decide +kernel
theorem dX9_letterOf_13 : decode cX9_letterOf 13 = .ok (.ireturn, 1) := by decide +kernel
theorem dX9_hasRoom_0 : decode cX9_hasRoom 0 = .ok (.iload_n 2, 1) := by decide +kernel
theorem dX9_hasRoom_1 : decode cX9_hasRoom 1 = .ok (.aload_n 0, 1) := by decide +kernel
theorem dX9_hasRoom_2 : decode cX9_hasRoom 2 = .ok (.iload_n 1, 1) := by decide +kernel
theorem dX9_hasRoom_3 : decode cX9_hasRoom 3 = .ok (.invokevirtual 179, 3) := by decide +kernel
theorem dX9_hasRoom_6 : decode cX9_hasRoom 6 = .ok (.iadd, 1) := by decide +kernel
theorem dX9_hasRoom_7 : decode cX9_hasRoom 7 = .ok (.aload_n 0, 1) := by decide +kernel
theorem dX9_hasRoom_8 : decode cX9_hasRoom 8 = .ok (.getfield 71, 3) := by decide +kernel
theorem dX9_hasRoom_11 : decode cX9_hasRoom 11 = .ok (.if_icmp .gt 7, 3) := by decide +kernel
theorem dX9_hasRoom_14 : decode cX9_hasRoom 14 = .ok (.iconst 1, 1) := by decide +kernel
theorem dX9_hasRoom_15 : decode cX9_hasRoom 15 = .ok (.goto 4, 3) := by decide +kernel
theorem dX9_hasRoom_18 : decode cX9_hasRoom 18 = .ok (.iconst 0, 1) := by decide +kernel
theorem dX9_hasRoom_19 : decode cX9_hasRoom 19 = .ok (.ireturn, 1) := by decide +kernel
theorem dX9_isWritten_0 : decode cX9_isWritten 0 = .ok (.aload_n 0, 1) := by decide +kernel
theorem dX9_isWritten_1 : decode cX9_isWritten 1 = .ok (.iload_n 1, 1) := by decide +kernel
theorem dX9_isWritten_2 : decode cX9_isWritten 2 = .ok (.iload_n 2, 1) := by decide +kernel
theorem dX9_isWritten_3 : decode cX9_isWritten 3 = .ok (.invokevirtual 182, 3) := by decide +kernel
theorem dX9_isWritten_6 : decode cX9_isWritten 6 = .ok (.istore_n 3, 1) := by decide +kernel
theorem dX9_isWritten_7 : decode cX9_isWritten 7 = .ok (.iconst 0, 1) := by decide +kernel
theorem dX9_isWritten_8 : decode cX9_isWritten 8 = .ok (.istore 4, 2) := by decide +kernel
theorem dX9_isWritten_10 : decode cX9_isWritten 10 = .ok (.iload 4, 2) := by decide +kernel
theorem dX9_isWritten_12 : decode cX9_isWritten 12 = .ok (.aload_n 0, 1) := by decide +kernel
theorem dX9_isWritten_13 : decode cX9_isWritten 13 = .ok (.iload_n 1, 1) := by decide +kernel
theorem dX9_isWritten_14 : decode cX9_isWritten 14 = .ok (.invokevirtual 179, 3) := by decide +kernel
theorem dX9_isWritten_17 : decode cX9_isWritten 17 = .ok (.if_icmp .ge 41, 3) := by decide +kernel
theorem dX9_isWritten_20 : decode cX9_isWritten 20 = .ok (.iload_n 3, 1) := by decide +kernel
theorem dX9_isWritten_21 : decode cX9_isWritten 21 = .ok (.ifCond .eq 37, 3) := by decide +kernel
theorem dX9_isWritten_24 : decode cX9_isWritten 24 = .ok (.aload_n 0, 1) := by decide +kernel
theorem dX9_isWritten_25 : decode cX9_isWritten 25 = .ok (.aload_n 0, 1) := by decide +kernel
theorem dX9_isWritten_26 : decode cX9_isWritten 26 = .ok (.iload_n 2, 1) := by decide +kernel
theorem dX9_isWritten_27 : decode cX9_isWritten 27 = .ok (.iload 4, 2) := by decide +kernel
theorem dX9_isWritten_29 : decode cX9_isWritten 29 = .ok (.iadd, 1) := by decide +kernel
theorem dX9_isWritten_30 : decode cX9_isWritten 30 = .ok (.invokevirtual 104, 3) := by decide +kernel
theorem dX9_isWritten_33 : decode cX9_isWritten 33 = .ok (.invokevirtual 114, 3) := by decide +kernel
theorem dX9_isWritten_36 : decode cX9_isWritten 36 = .ok (.aload_n 0, 1) := by decide +kernel
theorem dX9_isWritten_37 : decode cX9_isWritten 37 = .ok (.iload_n 1, 1) := by decide +kernel
theorem dX9_isWritten_38 : decode cX9_isWritten 38 = .ok (.iload 4, 2) := by decide +kernel
theorem dX9_isWritten_40 : decode cX9_isWritten 40 = .ok (.invokevirtual 185, 3) := by decide +kernel
theorem dX9_isWritten_43 : decode cX9_isWritten 43 = .ok (.if_icmp .ne 7, 3) := by decide +kernel
theorem dX9_isWritten_46 : decode cX9_isWritten 46 = .ok (.iconst 1, 1) := by decide +kernel
theorem dX9_isWritten_47 : decode cX9_isWritten 47 = .ok (.goto 4, 3) := by decide +kernel
theorem dX9_isWritten_50 : decode cX9_isWritten 50 = .ok (.iconst 0, 1) := by decide +kernel
theorem dX9_isWritten_51 : decode cX9_isWritten 51 = .ok (.istore_n 3, 1) := by decide +kernel
theorem dX9_isWritten_52 : decode cX9_isWritten 52 = .ok (.iinc 4 1, 3) := by decide +kernel
theorem dX9_isWritten_55 : decode cX9_isWritten 55 = .ok (.goto (-45), 3) := by decide +kernel
theorem dX9_isWritten_58 : decode cX9_isWritten 58 = .ok (.iload_n 3, 1) := by decide +kernel
theorem dX9_isWritten_59 : decode cX9_isWritten 59 = .ok (.ireturn, 1) := by decide +kernel
theorem dX9_written_0 : decode cX9_written 0 = .ok (.aload_n 0, 1) := by decide +kernel
theorem dX9_written_1 : decode cX9_written 1 = .ok (.iload_n 1, 1) := by decide +kernel
theorem dX9_written_2 : decode cX9_written 2 = .ok (.invokevirtual 174, 3) := by decide +kernel
theorem dX9_written_5 : decode cX9_written 5 = .ok (.ifCond .eq 11, 3) := by decide +kernel
theorem dX9_written_8 : decode cX9_written 8 = .ok (.aload_n 0, 1) := by decide +kernel
theorem dX9_written_9 : decode cX9_written 9 = .ok (.iload_n 2, 1) := by decide +kernel
theorem dX9_written_10 : decode cX9_written 10 = .ok (.invokevirtual 94, 3) := by decide +kernel
theorem dX9_written_13 : decode cX9_written 13 = .ok (.ifCond .ne 7, 3) := by decide +kernel
theorem dX9_written_16 : decode cX9_written 16 = .ok (.iconst (-1), 1) := by decide +kernel
theorem dX9_written_17 : decode cX9_written 17 = .ok (.goto 17, 3) := by decide +kernel
theorem dX9_written_20 : decode cX9_written 20 = .ok (.aload_n 0, 1) := by decide +kernel
theorem dX9_written_21 : decode cX9_written 21 = .ok (.iload_n 1, 1) := by decide +kernel
theorem dX9_written_22 : decode cX9_written 22 = .ok (.iload_n 2, 1) := by decide +kernel
theorem dX9_written_23 : decode cX9_written 23 = .ok (.invokevirtual 188, 3) := by decide +kernel
theorem dX9_written_26 : decode cX9_written 26 = .ok (.ifCond .eq 7, 3) := by decide +kernel
theorem dX9_written_29 : decode cX9_written 29 = .ok (.iconst 1, 1) := by decide +kernel
theorem dX9_written_30 : decode cX9_written 30 = .ok (.goto 4, 3) := by decide +kernel
theorem dX9_written_33 : decode cX9_written 33 = .ok (.iconst 0, 1) := by decide +kernel
theorem dX9_written_34 : decode cX9_written 34 = .ok (.ireturn, 1) := by decide +kernel
theorem dX9_mayBe_0 : decode cX9_mayBe 0 = .ok (.aload_n 0, 1) := by decide +kernel
theorem dX9_mayBe_1 : decode cX9_mayBe 1 = .ok (.iload_n 1, 1) := by decide +kernel
theorem dX9_mayBe_2 : decode cX9_mayBe 2 = .ok (.iload_n 2, 1) := by decide +kernel
theorem dX9_mayBe_3 : decode cX9_mayBe 3 = .ok (.invokevirtual 182, 3) := by decide +kernel
theorem dX9_mayBe_6 : decode cX9_mayBe 6 = .ok (.istore_n 3, 1) := by decide +kernel
theorem dX9_mayBe_7 : decode cX9_mayBe 7 = .ok (.iconst 0, 1) := by decide +kernel
theorem dX9_mayBe_8 : decode cX9_mayBe 8 = .ok (.istore 4, 2) := by decide +kernel
theorem dX9_mayBe_10 : decode cX9_mayBe 10 = .ok (.iload 4, 2) := by decide +kernel
theorem dX9_mayBe_12 : decode cX9_mayBe 12 = .ok (.aload_n 0, 1) := by decide +kernel
theorem dX9_mayBe_13 : decode cX9_mayBe 13 = .ok (.iload_n 1, 1) := by decide +kernel
theorem dX9_mayBe_14 : decode cX9_mayBe 14 = .ok (.invokevirtual 179, 3) := by decide +kernel
theorem dX9_mayBe_17 : decode cX9_mayBe 17 = .ok (.if_icmp .ge 127, 3) := by decide +kernel
theorem dX9_mayBe_20 : decode cX9_mayBe 20 = .ok (.iload_n 3, 1) := by decide +kernel
theorem dX9_mayBe_21 : decode cX9_mayBe 21 = .ok (.ifCond .eq 123, 3) := by decide +kernel
theorem dX9_mayBe_24 : decode cX9_mayBe 24 = .ok (.iload_n 2, 1) := by decide +kernel
theorem dX9_mayBe_25 : decode cX9_mayBe 25 = .ok (.iload 4, 2) := by decide +kernel
theorem dX9_mayBe_27 : decode cX9_mayBe 27 = .ok (.iadd, 1) := by decide +kernel
theorem dX9_mayBe_28 : decode cX9_mayBe 28 = .ok (.istore 5, 2) := by decide +kernel
theorem dX9_mayBe_30 : decode cX9_mayBe 30 = .ok (.aload_n 0, 1) := by decide +kernel
theorem dX9_mayBe_31 : decode cX9_mayBe 31 = .ok (.getfield 7, 3) := by decide +kernel
theorem dX9_mayBe_34 : decode cX9_mayBe 34 = .ok (.aload_n 0, 1) := by decide +kernel
theorem dX9_mayBe_35 : decode cX9_mayBe 35 = .ok (.iload_n 1, 1) := by decide +kernel
theorem dX9_mayBe_36 : decode cX9_mayBe 36 = .ok (.iload 4, 2) := by decide +kernel
theorem dX9_mayBe_38 : decode cX9_mayBe 38 = .ok (.invokevirtual 185, 3) := by decide +kernel
theorem dX9_mayBe_41 : decode cX9_mayBe 41 = .ok (.iaload, 1) := by decide +kernel
theorem dX9_mayBe_42 : decode cX9_mayBe 42 = .ok (.istore 6, 2) := by decide +kernel
theorem dX9_mayBe_44 : decode cX9_mayBe 44 = .ok (.aload_n 0, 1) := by decide +kernel
theorem dX9_mayBe_45 : decode cX9_mayBe 45 = .ok (.iload 5, 2) := by decide +kernel
theorem dX9_mayBe_47 : decode cX9_mayBe 47 = .ok (.iload 6, 2) := by decide +kernel
theorem dX9_mayBe_49 : decode cX9_mayBe 49 = .ok (.invokevirtual 121, 3) := by decide +kernel
theorem dX9_mayBe_52 : decode cX9_mayBe 52 = .ok (.ifCond .eq 30, 3) := by decide +kernel
theorem dX9_mayBe_55 : decode cX9_mayBe 55 = .ok (.aload_n 0, 1) := by decide +kernel
theorem dX9_mayBe_56 : decode cX9_mayBe 56 = .ok (.aload_n 0, 1) := by decide +kernel
theorem dX9_mayBe_57 : decode cX9_mayBe 57 = .ok (.iload 5, 2) := by decide +kernel
theorem dX9_mayBe_59 : decode cX9_mayBe 59 = .ok (.invokevirtual 104, 3) := by decide +kernel
theorem dX9_mayBe_62 : decode cX9_mayBe 62 = .ok (.iload 6, 2) := by decide +kernel
theorem dX9_mayBe_64 : decode cX9_mayBe 64 = .ok (.ior, 1) := by decide +kernel
theorem dX9_mayBe_65 : decode cX9_mayBe 65 = .ok (.invokevirtual 114, 3) := by decide +kernel
theorem dX9_mayBe_68 : decode cX9_mayBe 68 = .ok (.aload_n 0, 1) := by decide +kernel
theorem dX9_mayBe_69 : decode cX9_mayBe 69 = .ok (.iload_n 1, 1) := by decide +kernel
theorem dX9_mayBe_70 : decode cX9_mayBe 70 = .ok (.iload 4, 2) := by decide +kernel
theorem dX9_mayBe_72 : decode cX9_mayBe 72 = .ok (.invokevirtual 185, 3) := by decide +kernel
theorem dX9_mayBe_75 : decode cX9_mayBe 75 = .ok (.if_icmp .ne 7, 3) := by decide +kernel
theorem dX9_mayBe_78 : decode cX9_mayBe 78 = .ok (.iconst 1, 1) := by decide +kernel
theorem dX9_mayBe_79 : decode cX9_mayBe 79 = .ok (.goto 4, 3) := by decide +kernel
theorem dX9_mayBe_82 : decode cX9_mayBe 82 = .ok (.iconst 0, 1) := by decide +kernel
theorem dX9_mayBe_83 : decode cX9_mayBe 83 = .ok (.istore_n 3, 1) := by decide +kernel
theorem dX9_mayBe_84 : decode cX9_mayBe 84 = .ok (.iconst 0, 1) := by decide +kernel
theorem dX9_mayBe_85 : decode cX9_mayBe 85 = .ok (.istore 7, 2) := by decide +kernel
theorem dX9_mayBe_87 : decode cX9_mayBe 87 = .ok (.iload 7, 2) := by decide +kernel
theorem dX9_mayBe_89 : decode cX9_mayBe 89 = .ok (.iload 4, 2) := by decide +kernel
theorem dX9_mayBe_91 : decode cX9_mayBe 91 = .ok (.if_icmp .ge 47, 3) := by decide +kernel
theorem dX9_mayBe_94 : decode cX9_mayBe 94 = .ok (.iload_n 3, 1) := by decide +kernel
theorem dX9_mayBe_95 : decode cX9_mayBe 95 = .ok (.ifCond .eq 35, 3) := by decide +kernel
theorem dX9_mayBe_98 : decode cX9_mayBe 98 = .ok (.aload_n 0, 1) := by decide +kernel
theorem dX9_mayBe_99 : decode cX9_mayBe 99 = .ok (.getfield 25, 3) := by decide +kernel
theorem dX9_mayBe_102 : decode cX9_mayBe 102 = .ok (.bipush 6, 2) := by decide +kernel
theorem dX9_mayBe_104 : decode cX9_mayBe 104 = .ok (.aload_n 0, 1) := by decide +kernel
theorem dX9_mayBe_105 : decode cX9_mayBe 105 = .ok (.getfield 13, 3) := by decide +kernel
theorem dX9_mayBe_108 : decode cX9_mayBe 108 = .ok (.iload_n 2, 1) := by decide +kernel
theorem dX9_mayBe_109 : decode cX9_mayBe 109 = .ok (.iload 7, 2) := by decide +kernel
theorem dX9_mayBe_111 : decode cX9_mayBe 111 = .ok (.iadd, 1) := by decide +kernel
theorem dX9_mayBe_112 : decode cX9_mayBe 112 = .ok (.iaload, 1) := by decide +kernel
theorem dX9_mayBe_113 : decode cX9_mayBe 113 = .ok (.imul, 1) := by decide +kernel
theorem dX9_mayBe_114 : decode cX9_mayBe 114 = .ok (.aload_n 0, 1) := by decide +kernel
theorem dX9_mayBe_115 : decode cX9_mayBe 115 = .ok (.getfield 13, 3) := by decide +kernel
theorem dX9_mayBe_118 : decode cX9_mayBe 118 = .ok (.iload 5, 2) := by decide +kernel
theorem dX9_mayBe_120 : decode cX9_mayBe 120 = .ok (.iaload, 1) := by decide +kernel
theorem dX9_mayBe_121 : decode cX9_mayBe 121 = .ok (.iadd, 1) := by decide +kernel
theorem dX9_mayBe_122 : decode cX9_mayBe 122 = .ok (.iaload, 1) := by decide +kernel
theorem dX9_mayBe_123 : decode cX9_mayBe 123 = .ok (.ifCond .ne 7, 3) := by decide +kernel
theorem dX9_mayBe_126 : decode cX9_mayBe 126 = .ok (.iconst 1, 1) := by decide +kernel
theorem dX9_mayBe_127 : decode cX9_mayBe 127 = .ok (.goto 4, 3) := by decide +kernel
theorem dX9_mayBe_130 : decode cX9_mayBe 130 = .ok (.iconst 0, 1) := by decide +kernel
theorem dX9_mayBe_131 : decode cX9_mayBe 131 = .ok (.istore_n 3, 1) := by decide +kernel
theorem dX9_mayBe_132 : decode cX9_mayBe 132 = .ok (.iinc 7 1, 3) := by decide +kernel
theorem dX9_mayBe_135 : decode cX9_mayBe 135 = .ok (.goto (-48), 3) := by decide +kernel
theorem dX9_mayBe_138 : decode cX9_mayBe 138 = .ok (.iinc 4 1, 3) := by decide +kernel
theorem dX9_mayBe_141 : decode cX9_mayBe 141 = .ok (.goto (-131), 3) := by decide +kernel
theorem dX9_mayBe_144 : decode cX9_mayBe 144 = .ok (.iload_n 3, 1) := by decide +kernel
theorem dX9_mayBe_145 : decode cX9_mayBe 145 = .ok (.ireturn, 1) := by decide +kernel
theorem dX9_may_0 : decode cX9_may 0 = .ok (.aload_n 0, 1) := by decide +kernel
theorem dX9_may_1 : decode cX9_may 1 = .ok (.iload_n 1, 1) := by decide +kernel
theorem dX9_may_2 : decode cX9_may 2 = .ok (.invokevirtual 174, 3) := by decide +kernel
theorem dX9_may_5 : decode cX9_may 5 = .ok (.ifCond .eq 11, 3) := by decide +kernel
theorem dX9_may_8 : decode cX9_may 8 = .ok (.aload_n 0, 1) := by decide +kernel
theorem dX9_may_9 : decode cX9_may 9 = .ok (.iload_n 2, 1) := by decide +kernel
theorem dX9_may_10 : decode cX9_may 10 = .ok (.invokevirtual 94, 3) := by decide +kernel
theorem dX9_may_13 : decode cX9_may 13 = .ok (.ifCond .ne 7, 3) := by decide +kernel
theorem dX9_may_16 : decode cX9_may 16 = .ok (.iconst (-1), 1) := by decide +kernel
theorem dX9_may_17 : decode cX9_may 17 = .ok (.goto 17, 3) := by decide +kernel
theorem dX9_may_20 : decode cX9_may 20 = .ok (.aload_n 0, 1) := by decide +kernel
theorem dX9_may_21 : decode cX9_may 21 = .ok (.iload_n 1, 1) := by decide +kernel
theorem dX9_may_22 : decode cX9_may 22 = .ok (.iload_n 2, 1) := by decide +kernel
theorem dX9_may_23 : decode cX9_may 23 = .ok (.invokevirtual 191, 3) := by decide +kernel
theorem dX9_may_26 : decode cX9_may 26 = .ok (.ifCond .eq 7, 3) := by decide +kernel
theorem dX9_may_29 : decode cX9_may 29 = .ok (.iconst 1, 1) := by decide +kernel
theorem dX9_may_30 : decode cX9_may 30 = .ok (.goto 4, 3) := by decide +kernel
theorem dX9_may_33 : decode cX9_may 33 = .ok (.iconst 0, 1) := by decide +kernel
theorem dX9_may_34 : decode cX9_may 34 = .ok (.ireturn, 1) := by decide +kernel
theorem dX9_lostOn_0 : decode cX9_lostOn 0 = .ok (.iconst 0, 1) := by decide +kernel
theorem dX9_lostOn_1 : decode cX9_lostOn 1 = .ok (.istore_n 3, 1) := by decide +kernel
theorem dX9_lostOn_2 : decode cX9_lostOn 2 = .ok (.iconst 0, 1) := by decide +kernel
theorem dX9_lostOn_3 : decode cX9_lostOn 3 = .ok (.istore 4, 2) := by decide +kernel
theorem dX9_lostOn_5 : decode cX9_lostOn 5 = .ok (.iload 4, 2) := by decide +kernel
theorem dX9_lostOn_7 : decode cX9_lostOn 7 = .ok (.bipush 15, 2) := by decide +kernel
theorem dX9_lostOn_9 : decode cX9_lostOn 9 = .ok (.if_icmp .ge 52, 3) := by decide +kernel
theorem dX9_lostOn_12 : decode cX9_lostOn 12 = .ok (.aload_n 0, 1) := by decide +kernel
theorem dX9_lostOn_13 : decode cX9_lostOn 13 = .ok (.getfield 16, 3) := by decide +kernel
theorem dX9_lostOn_16 : decode cX9_lostOn 16 = .ok (.bipush 15, 2) := by decide +kernel
theorem dX9_lostOn_18 : decode cX9_lostOn 18 = .ok (.iload_n 1, 1) := by decide +kernel
theorem dX9_lostOn_19 : decode cX9_lostOn 19 = .ok (.imul, 1) := by decide +kernel
theorem dX9_lostOn_20 : decode cX9_lostOn 20 = .ok (.iload 4, 2) := by decide +kernel
theorem dX9_lostOn_22 : decode cX9_lostOn 22 = .ok (.iadd, 1) := by decide +kernel
theorem dX9_lostOn_23 : decode cX9_lostOn 23 = .ok (.iaload, 1) := by decide +kernel
theorem dX9_lostOn_24 : decode cX9_lostOn 24 = .ok (.istore 5, 2) := by decide +kernel
theorem dX9_lostOn_26 : decode cX9_lostOn 26 = .ok (.iload_n 3, 1) := by decide +kernel
theorem dX9_lostOn_27 : decode cX9_lostOn 27 = .ok (.aload_n 0, 1) := by decide +kernel
theorem dX9_lostOn_28 : decode cX9_lostOn 28 = .ok (.getfield 7, 3) := by decide +kernel
theorem dX9_lostOn_31 : decode cX9_lostOn 31 = .ok (.iload_n 2, 1) := by decide +kernel
theorem dX9_lostOn_32 : decode cX9_lostOn 32 = .ok (.iaload, 1) := by decide +kernel
theorem dX9_lostOn_33 : decode cX9_lostOn 33 = .ok (.iload 4, 2) := by decide +kernel
theorem dX9_lostOn_35 : decode cX9_lostOn 35 = .ok (.invokestatic 117, 3) := by decide +kernel
theorem dX9_lostOn_38 : decode cX9_lostOn 38 = .ok (.ifCond .ne 14, 3) := by decide +kernel
theorem dX9_lostOn_41 : decode cX9_lostOn 41 = .ok (.iload 5, 2) := by decide +kernel
theorem dX9_lostOn_43 : decode cX9_lostOn 43 = .ok (.iconst 2, 1) := by decide +kernel
theorem dX9_lostOn_44 : decode cX9_lostOn 44 = .ok (.if_icmp .le 8, 3) := by decide +kernel
theorem dX9_lostOn_47 : decode cX9_lostOn 47 = .ok (.iload 5, 2) := by decide +kernel
theorem dX9_lostOn_49 : decode cX9_lostOn 49 = .ok (.goto 4, 3) := by decide +kernel
theorem dX9_lostOn_52 : decode cX9_lostOn 52 = .ok (.iconst 0, 1) := by decide +kernel
theorem dX9_lostOn_53 : decode cX9_lostOn 53 = .ok (.iadd, 1) := by decide +kernel
theorem dX9_lostOn_54 : decode cX9_lostOn 54 = .ok (.istore_n 3, 1) := by decide +kernel
theorem dX9_lostOn_55 : decode cX9_lostOn 55 = .ok (.iinc 4 1, 3) := by decide +kernel
theorem dX9_lostOn_58 : decode cX9_lostOn 58 = .ok (.goto (-53), 3) := by decide +kernel
theorem dX9_lostOn_61 : decode cX9_lostOn 61 = .ok (.aload_n 0, 1) := by decide +kernel
theorem dX9_lostOn_62 : decode cX9_lostOn 62 = .ok (.getfield 22, 3) := by decide +kernel
theorem dX9_lostOn_65 : decode cX9_lostOn 65 = .ok (.iconst 3, 1) := by decide +kernel
theorem dX9_lostOn_66 : decode cX9_lostOn 66 = .ok (.iaload, 1) := by decide +kernel
theorem dX9_lostOn_67 : decode cX9_lostOn 67 = .ok (.iload_n 3, 1) := by decide +kernel
theorem dX9_lostOn_68 : decode cX9_lostOn 68 = .ok (.imul, 1) := by decide +kernel
theorem dX9_lostOn_69 : decode cX9_lostOn 69 = .ok (.ireturn, 1) := by decide +kernel
theorem dX9_lostBy_0 : decode cX9_lostBy 0 = .ok (.iconst 0, 1) := by decide +kernel
theorem dX9_lostBy_1 : decode cX9_lostBy 1 = .ok (.istore_n 3, 1) := by decide +kernel
theorem dX9_lostBy_2 : decode cX9_lostBy 2 = .ok (.iconst 0, 1) := by decide +kernel
theorem dX9_lostBy_3 : decode cX9_lostBy 3 = .ok (.istore 4, 2) := by decide +kernel
theorem dX9_lostBy_5 : decode cX9_lostBy 5 = .ok (.iload 4, 2) := by decide +kernel
theorem dX9_lostBy_7 : decode cX9_lostBy 7 = .ok (.aload_n 0, 1) := by decide +kernel
theorem dX9_lostBy_8 : decode cX9_lostBy 8 = .ok (.iload_n 1, 1) := by decide +kernel
theorem dX9_lostBy_9 : decode cX9_lostBy 9 = .ok (.invokevirtual 179, 3) := by decide +kernel
theorem dX9_lostBy_12 : decode cX9_lostBy 12 = .ok (.if_icmp .ge 27, 3) := by decide +kernel
theorem dX9_lostBy_15 : decode cX9_lostBy 15 = .ok (.iload_n 3, 1) := by decide +kernel
theorem dX9_lostBy_16 : decode cX9_lostBy 16 = .ok (.aload_n 0, 1) := by decide +kernel
theorem dX9_lostBy_17 : decode cX9_lostBy 17 = .ok (.iload_n 2, 1) := by decide +kernel
theorem dX9_lostBy_18 : decode cX9_lostBy 18 = .ok (.iload 4, 2) := by decide +kernel
theorem dX9_lostBy_20 : decode cX9_lostBy 20 = .ok (.iadd, 1) := by decide +kernel
theorem dX9_lostBy_21 : decode cX9_lostBy 21 = .ok (.aload_n 0, 1) := by decide +kernel
theorem dX9_lostBy_22 : decode cX9_lostBy 22 = .ok (.iload_n 1, 1) := by decide +kernel
theorem dX9_lostBy_23 : decode cX9_lostBy 23 = .ok (.iload 4, 2) := by decide +kernel
theorem dX9_lostBy_25 : decode cX9_lostBy 25 = .ok (.invokevirtual 185, 3) := by decide +kernel
theorem dX9_lostBy_28 : decode cX9_lostBy 28 = .ok (.invokevirtual 194, 3) := by decide +kernel
theorem dX9_lostBy_31 : decode cX9_lostBy 31 = .ok (.iadd, 1) := by decide +kernel
theorem dX9_lostBy_32 : decode cX9_lostBy 32 = .ok (.istore_n 3, 1) := by decide +kernel
theorem dX9_lostBy_33 : decode cX9_lostBy 33 = .ok (.iinc 4 1, 3) := by decide +kernel
theorem dX9_lostBy_36 : decode cX9_lostBy 36 = .ok (.goto (-31), 3) := by decide +kernel
theorem dX9_lostBy_39 : decode cX9_lostBy 39 = .ok (.iload_n 3, 1) := by decide +kernel
theorem dX9_lostBy_40 : decode cX9_lostBy 40 = .ok (.ireturn, 1) := by decide +kernel
theorem dX9_lost_0 : decode cX9_lost 0 = .ok (.aload_n 0, 1) := by decide +kernel
theorem dX9_lost_1 : decode cX9_lost 1 = .ok (.iload_n 1, 1) := by decide +kernel
theorem dX9_lost_2 : decode cX9_lost 2 = .ok (.invokevirtual 174, 3) := by decide +kernel
theorem dX9_lost_5 : decode cX9_lost 5 = .ok (.ifCond .eq 11, 3) := by decide +kernel
theorem dX9_lost_8 : decode cX9_lost 8 = .ok (.aload_n 0, 1) := by decide +kernel
theorem dX9_lost_9 : decode cX9_lost 9 = .ok (.iload_n 2, 1) := by decide +kernel
theorem dX9_lost_10 : decode cX9_lost 10 = .ok (.invokevirtual 94, 3) := by decide +kernel
theorem dX9_lost_13 : decode cX9_lost 13 = .ok (.ifCond .ne 7, 3) := by decide +kernel
theorem dX9_lost_16 : decode cX9_lost 16 = .ok (.iconst (-1), 1) := by decide +kernel
theorem dX9_lost_17 : decode cX9_lost 17 = .ok (.goto 23, 3) := by decide +kernel
theorem dX9_lost_20 : decode cX9_lost 20 = .ok (.aload_n 0, 1) := by decide +kernel
theorem dX9_lost_21 : decode cX9_lost 21 = .ok (.iload_n 1, 1) := by decide +kernel
theorem dX9_lost_22 : decode cX9_lost 22 = .ok (.iload_n 2, 1) := by decide +kernel
theorem dX9_lost_23 : decode cX9_lost 23 = .ok (.invokevirtual 182, 3) := by decide +kernel
theorem dX9_lost_26 : decode cX9_lost 26 = .ok (.ifCond .eq 12, 3) := by decide +kernel
theorem dX9_lost_29 : decode cX9_lost 29 = .ok (.aload_n 0, 1) := by decide +kernel
theorem dX9_lost_30 : decode cX9_lost 30 = .ok (.iload_n 1, 1) := by decide +kernel
theorem dX9_lost_31 : decode cX9_lost 31 = .ok (.iload_n 2, 1) := by decide +kernel
theorem dX9_lost_32 : decode cX9_lost 32 = .ok (.invokevirtual 197, 3) := by decide +kernel
theorem dX9_lost_35 : decode cX9_lost 35 = .ok (.goto 5, 3) := by decide +kernel
theorem dX9_lost_38 : decode cX9_lost 38 = .ok (.bipush (-2), 2) := by decide +kernel
theorem dX9_lost_40 : decode cX9_lost 40 = .ok (.ireturn, 1) := by decide +kernel
theorem dX9_findRow_0 : decode cX9_findRow 0 = .ok (.aload_n 0, 1) := by decide +kernel
theorem dX9_findRow_1 : decode cX9_findRow 1 = .ok (.getfield 37, 3) := by decide +kernel
theorem dX9_findRow_4 : decode cX9_findRow 4 = .ok (.aload_n 0, 1) := by decide +kernel
theorem dX9_findRow_5 : decode cX9_findRow 5 = .ok (.getfield 71, 3) := by decide +kernel
theorem dX9_findRow_8 : decode cX9_findRow 8 = .ok (.iconst 0, 1) := by decide +kernel
theorem dX9_findRow_9 : decode cX9_findRow 9 = .ok (.iastore, 1) := by decide +kernel
theorem dX9_findRow_10 : decode cX9_findRow 10 = .ok (.aload_n 0, 1) := by decide +kernel
theorem dX9_findRow_11 : decode cX9_findRow 11 = .ok (.getfield 71, 3) := by decide +kernel
theorem dX9_findRow_14 : decode cX9_findRow 14 = .ok (.iconst 1, 1) := by decide +kernel
theorem dX9_findRow_15 : decode cX9_findRow 15 = .ok (.isub, 1) := by decide +kernel
theorem dX9_findRow_16 : decode cX9_findRow 16 = .ok (.istore_n 1, 1) := by decide +kernel
theorem dX9_findRow_17 : decode cX9_findRow 17 = .ok (.iload_n 1, 1) := by decide +kernel
theorem dX9_findRow_18 : decode cX9_findRow 18 = .ok (.ifCond .lt 105, 3) := by decide +kernel
theorem dX9_findRow_21 : decode cX9_findRow 21 = .ok (.aload_n 0, 1) := by decide +kernel
theorem dX9_findRow_22 : decode cX9_findRow 22 = .ok (.getfield 37, 3) := by decide +kernel
theorem dX9_findRow_25 : decode cX9_findRow 25 = .ok (.iload_n 1, 1) := by decide +kernel
theorem dX9_findRow_26 : decode cX9_findRow 26 = .ok (.aload_n 0, 1) := by decide +kernel
theorem dX9_findRow_27 : decode cX9_findRow 27 = .ok (.getfield 37, 3) := by decide +kernel
theorem dX9_findRow_30 : decode cX9_findRow 30 = .ok (.iload_n 1, 1) := by decide +kernel
theorem dX9_findRow_31 : decode cX9_findRow 31 = .ok (.iconst 1, 1) := by decide +kernel
theorem dX9_findRow_32 : decode cX9_findRow 32 = .ok (.iadd, 1) := by decide +kernel
theorem dX9_findRow_33 : decode cX9_findRow 33 = .ok (.iaload, 1) := by decide +kernel
theorem dX9_findRow_34 : decode cX9_findRow 34 = .ok (.iastore, 1) := by decide +kernel
theorem dX9_findRow_35 : decode cX9_findRow 35 = .ok (.iconst 0, 1) := by decide +kernel
theorem dX9_findRow_36 : decode cX9_findRow 36 = .ok (.istore_n 2, 1) := by decide +kernel
theorem dX9_findRow_37 : decode cX9_findRow 37 = .ok (.iload_n 2, 1) := by decide +kernel
theorem dX9_findRow_38 : decode cX9_findRow 38 = .ok (.aload_n 0, 1) := by decide +kernel
theorem dX9_findRow_39 : decode cX9_findRow 39 = .ok (.getfield 83, 3) := by decide +kernel
theorem dX9_findRow_42 : decode cX9_findRow 42 = .ok (.if_icmp .ge 75, 3) := by decide +kernel
theorem dX9_findRow_45 : decode cX9_findRow 45 = .ok (.aload_n 0, 1) := by decide +kernel
theorem dX9_findRow_46 : decode cX9_findRow 46 = .ok (.getfield 43, 3) := by decide +kernel
theorem dX9_findRow_49 : decode cX9_findRow 49 = .ok (.bipush 10, 2) := by decide +kernel
theorem dX9_findRow_51 : decode cX9_findRow 51 = .ok (.iload_n 1, 1) := by decide +kernel
theorem dX9_findRow_52 : decode cX9_findRow 52 = .ok (.imul, 1) := by decide +kernel
theorem dX9_findRow_53 : decode cX9_findRow 53 = .ok (.iload_n 2, 1) := by decide +kernel
theorem dX9_findRow_54 : decode cX9_findRow 54 = .ok (.iadd, 1) := by decide +kernel
theorem dX9_findRow_55 : decode cX9_findRow 55 = .ok (.iaload, 1) := by decide +kernel
theorem dX9_findRow_56 : decode cX9_findRow 56 = .ok (.iconst 1, 1) := by decide +kernel
theorem dX9_findRow_57 : decode cX9_findRow 57 = .ok (.if_icmp .ne 54, 3) := by decide +kernel
theorem dX9_findRow_60 : decode cX9_findRow 60 = .ok (.aload_n 0, 1) := by decide +kernel
theorem dX9_findRow_61 : decode cX9_findRow 61 = .ok (.getfield 46, 3) := by decide +kernel
theorem dX9_findRow_64 : decode cX9_findRow 64 = .ok (.bipush 10, 2) := by decide +kernel
theorem dX9_findRow_66 : decode cX9_findRow 66 = .ok (.iload_n 1, 1) := by decide +kernel
theorem dX9_findRow_67 : decode cX9_findRow 67 = .ok (.imul, 1) := by decide +kernel
theorem dX9_findRow_68 : decode cX9_findRow 68 = .ok (.iload_n 2, 1) := by decide +kernel
theorem dX9_findRow_69 : decode cX9_findRow 69 = .ok (.iadd, 1) := by decide +kernel
theorem dX9_findRow_70 : decode cX9_findRow 70 = .ok (.iaload, 1) := by decide +kernel
theorem dX9_findRow_71 : decode cX9_findRow 71 = .ok (.aload_n 0, 1) := by decide +kernel
theorem dX9_findRow_72 : decode cX9_findRow 72 = .ok (.getfield 37, 3) := by decide +kernel
theorem dX9_findRow_75 : decode cX9_findRow 75 = .ok (.iload_n 1, 1) := by decide +kernel
theorem dX9_findRow_76 : decode cX9_findRow 76 = .ok (.aload_n 0, 1) := by decide +kernel
theorem dX9_findRow_77 : decode cX9_findRow 77 = .ok (.iload_n 2, 1) := by decide +kernel
theorem dX9_findRow_78 : decode cX9_findRow 78 = .ok (.invokevirtual 179, 3) := by decide +kernel
theorem dX9_findRow_81 : decode cX9_findRow 81 = .ok (.iadd, 1) := by decide +kernel
theorem dX9_findRow_82 : decode cX9_findRow 82 = .ok (.iaload, 1) := by decide +kernel
theorem dX9_findRow_83 : decode cX9_findRow 83 = .ok (.iadd, 1) := by decide +kernel
theorem dX9_findRow_84 : decode cX9_findRow 84 = .ok (.istore_n 3, 1) := by decide +kernel
theorem dX9_findRow_85 : decode cX9_findRow 85 = .ok (.aload_n 0, 1) := by decide +kernel
theorem dX9_findRow_86 : decode cX9_findRow 86 = .ok (.getfield 37, 3) := by decide +kernel
theorem dX9_findRow_89 : decode cX9_findRow 89 = .ok (.iload_n 1, 1) := by decide +kernel
theorem dX9_findRow_90 : decode cX9_findRow 90 = .ok (.iload_n 3, 1) := by decide +kernel
theorem dX9_findRow_91 : decode cX9_findRow 91 = .ok (.aload_n 0, 1) := by decide +kernel
theorem dX9_findRow_92 : decode cX9_findRow 92 = .ok (.getfield 37, 3) := by decide +kernel
theorem dX9_findRow_95 : decode cX9_findRow 95 = .ok (.iload_n 1, 1) := by decide +kernel
theorem dX9_findRow_96 : decode cX9_findRow 96 = .ok (.iaload, 1) := by decide +kernel
theorem dX9_findRow_97 : decode cX9_findRow 97 = .ok (.if_icmp .le 7, 3) := by decide +kernel
theorem dX9_findRow_100 : decode cX9_findRow 100 = .ok (.iload_n 3, 1) := by decide +kernel
theorem dX9_findRow_101 : decode cX9_findRow 101 = .ok (.goto 9, 3) := by decide +kernel
theorem dX9_findRow_104 : decode cX9_findRow 104 = .ok (.aload_n 0, 1) := by decide +kernel
theorem dX9_findRow_105 : decode cX9_findRow 105 = .ok (.getfield 37, 3) := by decide +kernel
theorem dX9_findRow_108 : decode cX9_findRow 108 = .ok (.iload_n 1, 1) := by decide +kernel
theorem dX9_findRow_109 : decode cX9_findRow 109 = .ok (.iaload, 1) := by decide +kernel
theorem dX9_findRow_110 : decode cX9_findRow 110 = .ok (.iastore, 1) := by decide +kernel
theorem dX9_findRow_111 : decode cX9_findRow 111 = .ok (.iinc 2 1, 3) := by decide +kernel
theorem dX9_findRow_114 : decode cX9_findRow 114 = .ok (.goto (-77), 3) := by decide +kernel
theorem dX9_findRow_117 : decode cX9_findRow 117 = .ok (.iinc 1 (-1), 3) := by decide +kernel
theorem dX9_findRow_120 : decode cX9_findRow 120 = .ok (.goto (-103), 3) := by decide +kernel
theorem dX9_findRow_123 : decode cX9_findRow 123 = .ok (.aload_n 0, 1) := by decide +kernel
theorem dX9_findRow_124 : decode cX9_findRow 124 = .ok (.iconst 0, 1) := by decide +kernel
theorem dX9_findRow_125 : decode cX9_findRow 125 = .ok (.putfield 200, 3) := by decide +kernel
theorem dX9_findRow_128 : decode cX9_findRow 128 = .ok (.iconst 0, 1) := by decide +kernel
theorem dX9_findRow_129 : decode cX9_findRow 129 = .ok (.istore_n 1, 1) := by decide +kernel
theorem dX9_findRow_130 : decode cX9_findRow 130 = .ok (.iload_n 1, 1) := by decide +kernel
theorem dX9_findRow_131 : decode cX9_findRow 131 = .ok (.aload_n 0, 1) := by decide +kernel
theorem dX9_findRow_132 : decode cX9_findRow 132 = .ok (.getfield 71, 3) := by decide +kernel
theorem dX9_findRow_135 : decode cX9_findRow 135 = .ok (.if_icmp .ge 137, 3) := by decide +kernel
theorem dX9_findRow_138 : decode cX9_findRow 138 = .ok (.bipush (-4), 2) := by decide +kernel
theorem dX9_findRow_140 : decode cX9_findRow 140 = .ok (.istore_n 2, 1) := by decide +kernel
theorem dX9_findRow_141 : decode cX9_findRow 141 = .ok (.aload_n 0, 1) := by decide +kernel
theorem dX9_findRow_142 : decode cX9_findRow 142 = .ok (.getfield 83, 3) := by decide +kernel
theorem dX9_findRow_145 : decode cX9_findRow 145 = .ok (.iconst 1, 1) := by decide +kernel
theorem dX9_findRow_146 : decode cX9_findRow 146 = .ok (.isub, 1) := by decide +kernel
theorem dX9_findRow_147 : decode cX9_findRow 147 = .ok (.istore_n 3, 1) := by decide +kernel
theorem dX9_findRow_148 : decode cX9_findRow 148 = .ok (.iload_n 3, 1) := by decide +kernel
theorem dX9_findRow_149 : decode cX9_findRow 149 = .ok (.ifCond .lt 75, 3) := by decide +kernel
theorem dX9_findRow_152 : decode cX9_findRow 152 = .ok (.aload_n 0, 1) := by decide +kernel
theorem dX9_findRow_153 : decode cX9_findRow 153 = .ok (.getfield 43, 3) := by decide +kernel
theorem dX9_findRow_156 : decode cX9_findRow 156 = .ok (.bipush 10, 2) := by decide +kernel
theorem dX9_findRow_158 : decode cX9_findRow 158 = .ok (.iload_n 1, 1) := by decide +kernel
theorem dX9_findRow_159 : decode cX9_findRow 159 = .ok (.imul, 1) := by decide +kernel
theorem dX9_findRow_160 : decode cX9_findRow 160 = .ok (.iload_n 3, 1) := by decide +kernel
theorem dX9_findRow_161 : decode cX9_findRow 161 = .ok (.iadd, 1) := by decide +kernel
theorem dX9_findRow_162 : decode cX9_findRow 162 = .ok (.iaload, 1) := by decide +kernel
theorem dX9_findRow_163 : decode cX9_findRow 163 = .ok (.iconst 1, 1) := by decide +kernel
theorem dX9_findRow_164 : decode cX9_findRow 164 = .ok (.if_icmp .ne 40, 3) := by decide +kernel
theorem dX9_findRow_167 : decode cX9_findRow 167 = .ok (.aload_n 0, 1) := by decide +kernel
theorem dX9_findRow_168 : decode cX9_findRow 168 = .ok (.getfield 46, 3) := by decide +kernel
theorem dX9_findRow_171 : decode cX9_findRow 171 = .ok (.bipush 10, 2) := by decide +kernel
theorem dX9_findRow_173 : decode cX9_findRow 173 = .ok (.iload_n 1, 1) := by decide +kernel
theorem dX9_findRow_174 : decode cX9_findRow 174 = .ok (.imul, 1) := by decide +kernel
theorem dX9_findRow_175 : decode cX9_findRow 175 = .ok (.iload_n 3, 1) := by decide +kernel
theorem dX9_findRow_176 : decode cX9_findRow 176 = .ok (.iadd, 1) := by decide +kernel
theorem dX9_findRow_177 : decode cX9_findRow 177 = .ok (.iaload, 1) := by decide +kernel
theorem dX9_findRow_178 : decode cX9_findRow 178 = .ok (.aload_n 0, 1) := by decide +kernel
theorem dX9_findRow_179 : decode cX9_findRow 179 = .ok (.getfield 37, 3) := by decide +kernel
theorem dX9_findRow_182 : decode cX9_findRow 182 = .ok (.iload_n 1, 1) := by decide +kernel
theorem dX9_findRow_183 : decode cX9_findRow 183 = .ok (.aload_n 0, 1) := by decide +kernel
theorem dX9_findRow_184 : decode cX9_findRow 184 = .ok (.iload_n 3, 1) := by decide +kernel
theorem dX9_findRow_185 : decode cX9_findRow 185 = .ok (.invokevirtual 179, 3) := by decide +kernel
theorem dX9_findRow_188 : decode cX9_findRow 188 = .ok (.iadd, 1) := by decide +kernel
theorem dX9_findRow_189 : decode cX9_findRow 189 = .ok (.iaload, 1) := by decide +kernel
theorem dX9_findRow_190 : decode cX9_findRow 190 = .ok (.iadd, 1) := by decide +kernel
theorem dX9_findRow_191 : decode cX9_findRow 191 = .ok (.aload_n 0, 1) := by decide +kernel
theorem dX9_findRow_192 : decode cX9_findRow 192 = .ok (.getfield 37, 3) := by decide +kernel
theorem dX9_findRow_195 : decode cX9_findRow 195 = .ok (.iload_n 1, 1) := by decide +kernel
theorem dX9_findRow_196 : decode cX9_findRow 196 = .ok (.iaload, 1) := by decide +kernel
theorem dX9_findRow_197 : decode cX9_findRow 197 = .ok (.if_icmp .ne 7, 3) := by decide +kernel
theorem dX9_findRow_200 : decode cX9_findRow 200 = .ok (.iconst 1, 1) := by decide +kernel
theorem dX9_findRow_201 : decode cX9_findRow 201 = .ok (.goto 4, 3) := by decide +kernel
theorem dX9_findRow_204 : decode cX9_findRow 204 = .ok (.iconst 0, 1) := by decide +kernel
theorem dX9_findRow_205 : decode cX9_findRow 205 = .ok (.istore 4, 2) := by decide +kernel
theorem dX9_findRow_207 : decode cX9_findRow 207 = .ok (.iload 4, 2) := by decide +kernel
theorem dX9_findRow_209 : decode cX9_findRow 209 = .ok (.ifCond .eq 7, 3) := by decide +kernel
theorem dX9_findRow_212 : decode cX9_findRow 212 = .ok (.iload_n 3, 1) := by decide +kernel
theorem dX9_findRow_213 : decode cX9_findRow 213 = .ok (.goto 4, 3) := by decide +kernel
theorem dX9_findRow_216 : decode cX9_findRow 216 = .ok (.iload_n 2, 1) := by decide +kernel
theorem dX9_findRow_217 : decode cX9_findRow 217 = .ok (.istore_n 2, 1) := by decide +kernel
theorem dX9_findRow_218 : decode cX9_findRow 218 = .ok (.iinc 3 (-1), 3) := by decide +kernel
theorem dX9_findRow_221 : decode cX9_findRow 221 = .ok (.goto (-73), 3) := by decide +kernel
theorem dX9_findRow_224 : decode cX9_findRow 224 = .ok (.iload_n 2, 1) := by decide +kernel
theorem dX9_findRow_225 : decode cX9_findRow 225 = .ok (.ifCond .lt 28, 3) := by decide +kernel
theorem dX9_findRow_228 : decode cX9_findRow 228 = .ok (.aload_n 0, 1) := by decide +kernel
theorem dX9_findRow_229 : decode cX9_findRow 229 = .ok (.getfield 40, 3) := by decide +kernel
theorem dX9_findRow_232 : decode cX9_findRow 232 = .ok (.aload_n 0, 1) := by decide +kernel
theorem dX9_findRow_233 : decode cX9_findRow 233 = .ok (.getfield 200, 3) := by decide +kernel
theorem dX9_findRow_236 : decode cX9_findRow 236 = .ok (.bipush 10, 2) := by decide +kernel
theorem dX9_findRow_238 : decode cX9_findRow 238 = .ok (.iload_n 1, 1) := by decide +kernel
theorem dX9_findRow_239 : decode cX9_findRow 239 = .ok (.imul, 1) := by decide +kernel
theorem dX9_findRow_240 : decode cX9_findRow 240 = .ok (.iload_n 2, 1) := by decide +kernel
theorem dX9_findRow_241 : decode cX9_findRow 241 = .ok (.iadd, 1) := by decide +kernel
theorem dX9_findRow_242 : decode cX9_findRow 242 = .ok (.iastore, 1) := by decide +kernel
theorem dX9_findRow_243 : decode cX9_findRow 243 = .ok (.aload_n 0, 1) := by decide +kernel
theorem dX9_findRow_244 : decode cX9_findRow 244 = .ok (.dup, 1) := by decide +kernel
theorem dX9_findRow_245 : decode cX9_findRow 245 = .ok (.getfield 200, 3) := by decide +kernel
theorem dX9_findRow_248 : decode cX9_findRow 248 = .ok (.iconst 1, 1) := by decide +kernel
theorem dX9_findRow_249 : decode cX9_findRow 249 = .ok (.iadd, 1) := by decide +kernel
theorem dX9_findRow_250 : decode cX9_findRow 250 = .ok (.putfield 200, 3) := by decide +kernel
theorem dX9_findRow_253 : decode cX9_findRow 253 = .ok (.iload_n 1, 1) := by decide +kernel
theorem dX9_findRow_254 : decode cX9_findRow 254 = .ok (.iload_n 2, 1) := by decide +kernel
theorem dX9_findRow_255 : decode cX9_findRow 255 = .ok (.ifCond .ge 7, 3) := by decide +kernel
theorem dX9_findRow_258 : decode cX9_findRow 258 = .ok (.iconst 1, 1) := by decide +kernel
theorem dX9_findRow_259 : decode cX9_findRow 259 = .ok (.goto 8, 3) := by decide +kernel
theorem dX9_findRow_262 : decode cX9_findRow 262 = .ok (.aload_n 0, 1) := by decide +kernel
theorem dX9_findRow_263 : decode cX9_findRow 263 = .ok (.iload_n 2, 1) := by decide +kernel
theorem dX9_findRow_264 : decode cX9_findRow 264 = .ok (.invokevirtual 179, 3) := by decide +kernel
theorem dX9_findRow_267 : decode cX9_findRow 267 = .ok (.iadd, 1) := by decide +kernel
theorem dX9_findRow_268 : decode cX9_findRow 268 = .ok (.istore_n 1, 1) := by decide +kernel
theorem dX9_findRow_269 : decode cX9_findRow 269 = .ok (.goto (-139), 3) := by decide +kernel
theorem dX9_findRow_272 : decode cX9_findRow 272 = .ok (.return_, 1) := by decide +kernel
theorem dX9_tellRow_0 : decode cX9_tellRow 0 = .ok (.iload_n 1, 1) := by decide +kernel
theorem dX9_tellRow_1 : decode cX9_tellRow 1 = .ok (.iconst (-1), 1) := by decide +kernel
theorem dX9_tellRow_2 : decode cX9_tellRow 2 = .ok (.if_icmp .ne 12, 3) := by decide +kernel
theorem dX9_tellRow_5 : decode cX9_tellRow 5 = .ok (.aload_n 0, 1) := by decide +kernel
theorem dX9_tellRow_6 : decode cX9_tellRow 6 = .ok (.getfield 37, 3) := by decide +kernel
theorem dX9_tellRow_9 : decode cX9_tellRow 9 = .ok (.iconst 0, 1) := by decide +kernel
theorem dX9_tellRow_10 : decode cX9_tellRow 10 = .ok (.iaload, 1) := by decide +kernel
theorem dX9_tellRow_11 : decode cX9_tellRow 11 = .ok (.goto 35, 3) := by decide +kernel
theorem dX9_tellRow_14 : decode cX9_tellRow 14 = .ok (.iload_n 1, 1) := by decide +kernel
theorem dX9_tellRow_15 : decode cX9_tellRow 15 = .ok (.bipush (-2), 2) := by decide +kernel
theorem dX9_tellRow_17 : decode cX9_tellRow 17 = .ok (.if_icmp .ne 10, 3) := by decide +kernel
theorem dX9_tellRow_20 : decode cX9_tellRow 20 = .ok (.aload_n 0, 1) := by decide +kernel
theorem dX9_tellRow_21 : decode cX9_tellRow 21 = .ok (.getfield 200, 3) := by decide +kernel
theorem dX9_tellRow_24 : decode cX9_tellRow 24 = .ok (.goto 22, 3) := by decide +kernel
theorem dX9_tellRow_27 : decode cX9_tellRow 27 = .ok (.iload_n 1, 1) := by decide +kernel
theorem dX9_tellRow_28 : decode cX9_tellRow 28 = .ok (.aload_n 0, 1) := by decide +kernel
theorem dX9_tellRow_29 : decode cX9_tellRow 29 = .ok (.getfield 200, 3) := by decide +kernel
theorem dX9_tellRow_32 : decode cX9_tellRow 32 = .ok (.if_icmp .ge 12, 3) := by decide +kernel
theorem dX9_tellRow_35 : decode cX9_tellRow 35 = .ok (.aload_n 0, 1) := by decide +kernel
theorem dX9_tellRow_36 : decode cX9_tellRow 36 = .ok (.getfield 40, 3) := by decide +kernel
theorem dX9_tellRow_39 : decode cX9_tellRow 39 = .ok (.iload_n 1, 1) := by decide +kernel
theorem dX9_tellRow_40 : decode cX9_tellRow 40 = .ok (.iaload, 1) := by decide +kernel
theorem dX9_tellRow_41 : decode cX9_tellRow 41 = .ok (.goto 5, 3) := by decide +kernel
theorem dX9_tellRow_44 : decode cX9_tellRow 44 = .ok (.bipush (-4), 2) := by decide +kernel
theorem dX9_tellRow_46 : decode cX9_tellRow 46 = .ok (.ireturn, 1) := by decide +kernel
theorem dX9_read_0 : decode cX9_read 0 = .ok (.iload_n 1, 1) := by decide +kernel
theorem dX9_read_1 : decode cX9_read 1 = .ok (.i2l, 1) := by decide +kernel
theorem dX9_read_2 : decode cX9_read 2 = .ok (.ldc2_w 203, 3) := by decide +kernel
theorem dX9_read_5 : decode cX9_read 5 = .ok (.ldc2_w 133, 3) := by decide +kernel
theorem dX9_read_8 : decode cX9_read 8 = .ok (.invokestatic 75, 3) := by decide +kernel
theorem dX9_read_11 : decode cX9_read 11 = .ok (.ifCond .ne 5, 3) := by decide +kernel
theorem dX9_read_14 : decode cX9_read 14 = .ok (.iconst (-1), 1) := by decide +kernel
theorem dX9_read_15 : decode cX9_read 15 = .ok (.ireturn, 1) := by decide +kernel
theorem dX9_read_16 : decode cX9_read 16 = .ok (.iconst 0, 1) := by decide +kernel
theorem dX9_read_17 : decode cX9_read 17 = .ok (.istore_n 2, 1) := by decide +kernel
theorem dX9_read_18 : decode cX9_read 18 = .ok (.iload_n 2, 1) := by decide +kernel
theorem dX9_read_19 : decode cX9_read 19 = .ok (.aload_n 0, 1) := by decide +kernel
theorem dX9_read_20 : decode cX9_read 20 = .ok (.getfield 71, 3) := by decide +kernel
theorem dX9_read_23 : decode cX9_read 23 = .ok (.if_icmp .ge 72, 3) := by decide +kernel
theorem dX9_read_26 : decode cX9_read 26 = .ok (.iconst 0, 1) := by decide +kernel
theorem dX9_read_27 : decode cX9_read 27 = .ok (.istore_n 3, 1) := by decide +kernel
theorem dX9_read_28 : decode cX9_read 28 = .ok (.iload_n 3, 1) := by decide +kernel
theorem dX9_read_29 : decode cX9_read 29 = .ok (.aload_n 0, 1) := by decide +kernel
theorem dX9_read_30 : decode cX9_read 30 = .ok (.getfield 83, 3) := by decide +kernel
theorem dX9_read_33 : decode cX9_read 33 = .ok (.if_icmp .ge 56, 3) := by decide +kernel
theorem dX9_read_36 : decode cX9_read 36 = .ok (.aload_n 0, 1) := by decide +kernel
theorem dX9_read_37 : decode cX9_read 37 = .ok (.getfield 43, 3) := by decide +kernel
theorem dX9_read_40 : decode cX9_read 40 = .ok (.bipush 10, 2) := by decide +kernel
theorem dX9_read_42 : decode cX9_read 42 = .ok (.iload_n 2, 1) := by decide +kernel
theorem dX9_read_43 : decode cX9_read 43 = .ok (.imul, 1) := by decide +kernel
theorem dX9_read_44 : decode cX9_read 44 = .ok (.iload_n 3, 1) := by decide +kernel
theorem dX9_read_45 : decode cX9_read 45 = .ok (.iadd, 1) := by decide +kernel
theorem dX9_read_46 : decode cX9_read 46 = .ok (.aload_n 0, 1) := by decide +kernel
theorem dX9_read_47 : decode cX9_read 47 = .ok (.iload_n 3, 1) := by decide +kernel
theorem dX9_read_48 : decode cX9_read 48 = .ok (.iload_n 2, 1) := by decide +kernel
theorem dX9_read_49 : decode cX9_read 49 = .ok (.invokevirtual 188, 3) := by decide +kernel
theorem dX9_read_52 : decode cX9_read 52 = .ok (.ifCond .eq 7, 3) := by decide +kernel
theorem dX9_read_55 : decode cX9_read 55 = .ok (.iconst 1, 1) := by decide +kernel
theorem dX9_read_56 : decode cX9_read 56 = .ok (.goto 4, 3) := by decide +kernel
theorem dX9_read_59 : decode cX9_read 59 = .ok (.iconst 0, 1) := by decide +kernel
theorem dX9_read_60 : decode cX9_read 60 = .ok (.iastore, 1) := by decide +kernel
theorem dX9_read_61 : decode cX9_read 61 = .ok (.aload_n 0, 1) := by decide +kernel
theorem dX9_read_62 : decode cX9_read 62 = .ok (.getfield 46, 3) := by decide +kernel
theorem dX9_read_65 : decode cX9_read 65 = .ok (.bipush 10, 2) := by decide +kernel
theorem dX9_read_67 : decode cX9_read 67 = .ok (.iload_n 2, 1) := by decide +kernel
theorem dX9_read_68 : decode cX9_read 68 = .ok (.imul, 1) := by decide +kernel
theorem dX9_read_69 : decode cX9_read 69 = .ok (.iload_n 3, 1) := by decide +kernel
theorem dX9_read_70 : decode cX9_read 70 = .ok (.iadd, 1) := by decide +kernel
theorem dX9_read_71 : decode cX9_read 71 = .ok (.aload_n 0, 1) := by decide +kernel
theorem dX9_read_72 : decode cX9_read 72 = .ok (.getfield 28, 3) := by decide +kernel
theorem dX9_read_75 : decode cX9_read 75 = .ok (.bipush 8, 2) := by decide +kernel
theorem dX9_read_77 : decode cX9_read 77 = .ok (.iload_n 3, 1) := by decide +kernel
theorem dX9_read_78 : decode cX9_read 78 = .ok (.imul, 1) := by decide +kernel
theorem dX9_read_79 : decode cX9_read 79 = .ok (.iconst 1, 1) := by decide +kernel
theorem dX9_read_80 : decode cX9_read 80 = .ok (.iadd, 1) := by decide +kernel
theorem dX9_read_81 : decode cX9_read 81 = .ok (.iaload, 1) := by decide +kernel
theorem dX9_read_82 : decode cX9_read 82 = .ok (.iastore, 1) := by decide +kernel
theorem dX9_read_83 : decode cX9_read 83 = .ok (.iinc 3 1, 3) := by decide +kernel
theorem dX9_read_86 : decode cX9_read 86 = .ok (.goto (-58), 3) := by decide +kernel
theorem dX9_read_89 : decode cX9_read 89 = .ok (.iinc 2 1, 3) := by decide +kernel
theorem dX9_read_92 : decode cX9_read 92 = .ok (.goto (-74), 3) := by decide +kernel
theorem dX9_read_95 : decode cX9_read 95 = .ok (.aload_n 0, 1) := by decide +kernel
theorem dX9_read_96 : decode cX9_read 96 = .ok (.invokevirtual 205, 3) := by decide +kernel
theorem dX9_read_99 : decode cX9_read 99 = .ok (.aload_n 0, 1) := by decide +kernel
theorem dX9_read_100 : decode cX9_read 100 = .ok (.iload_n 1, 1) := by decide +kernel
theorem dX9_read_101 : decode cX9_read 101 = .ok (.invokevirtual 208, 3) := by decide +kernel
theorem dX9_read_104 : decode cX9_read 104 = .ok (.ireturn, 1) := by decide +kernel
theorem dX9_plan_0 : decode cX9_plan 0 = .ok (.iload_n 1, 1) := by decide +kernel
theorem dX9_plan_1 : decode cX9_plan 1 = .ok (.i2l, 1) := by decide +kernel
theorem dX9_plan_2 : decode cX9_plan 2 = .ok (.ldc2_w 203, 3) := by decide +kernel
theorem dX9_plan_5 : decode cX9_plan 5 = .ok (.ldc2_w 133, 3) := by decide +kernel
theorem dX9_plan_8 : decode cX9_plan 8 = .ok (.invokestatic 75, 3) := by decide +kernel
theorem dX9_plan_11 : decode cX9_plan 11 = .ok (.ifCond .ne 5, 3) := by decide +kernel
theorem dX9_plan_14 : decode cX9_plan 14 = .ok (.iconst (-1), 1) := by decide +kernel
theorem dX9_plan_15 : decode cX9_plan 15 = .ok (.ireturn, 1) := by decide +kernel
theorem dX9_plan_16 : decode cX9_plan 16 = .ok (.iconst 0, 1) := by decide +kernel
theorem dX9_plan_17 : decode cX9_plan 17 = .ok (.istore_n 2, 1) := by decide +kernel
theorem dX9_plan_18 : decode cX9_plan 18 = .ok (.iload_n 2, 1) := by decide +kernel
theorem dX9_plan_19 : decode cX9_plan 19 = .ok (.aload_n 0, 1) := by decide +kernel
theorem dX9_plan_20 : decode cX9_plan 20 = .ok (.getfield 71, 3) := by decide +kernel
theorem dX9_plan_23 : decode cX9_plan 23 = .ok (.if_icmp .ge 92, 3) := by decide +kernel
theorem dX9_plan_26 : decode cX9_plan 26 = .ok (.iconst 0, 1) := by decide +kernel
theorem dX9_plan_27 : decode cX9_plan 27 = .ok (.istore_n 3, 1) := by decide +kernel
theorem dX9_plan_28 : decode cX9_plan 28 = .ok (.iload_n 3, 1) := by decide +kernel
theorem dX9_plan_29 : decode cX9_plan 29 = .ok (.aload_n 0, 1) := by decide +kernel
theorem dX9_plan_30 : decode cX9_plan 30 = .ok (.getfield 83, 3) := by decide +kernel
theorem dX9_plan_33 : decode cX9_plan 33 = .ok (.if_icmp .ge 76, 3) := by decide +kernel
theorem dX9_plan_36 : decode cX9_plan 36 = .ok (.aload_n 0, 1) := by decide +kernel
theorem dX9_plan_37 : decode cX9_plan 37 = .ok (.getfield 43, 3) := by decide +kernel
theorem dX9_plan_40 : decode cX9_plan 40 = .ok (.bipush 10, 2) := by decide +kernel
theorem dX9_plan_42 : decode cX9_plan 42 = .ok (.iload_n 2, 1) := by decide +kernel
theorem dX9_plan_43 : decode cX9_plan 43 = .ok (.imul, 1) := by decide +kernel
theorem dX9_plan_44 : decode cX9_plan 44 = .ok (.iload_n 3, 1) := by decide +kernel
theorem dX9_plan_45 : decode cX9_plan 45 = .ok (.iadd, 1) := by decide +kernel
theorem dX9_plan_46 : decode cX9_plan 46 = .ok (.aload_n 0, 1) := by decide +kernel
theorem dX9_plan_47 : decode cX9_plan 47 = .ok (.iload_n 3, 1) := by decide +kernel
theorem dX9_plan_48 : decode cX9_plan 48 = .ok (.iload_n 2, 1) := by decide +kernel
theorem dX9_plan_49 : decode cX9_plan 49 = .ok (.invokevirtual 191, 3) := by decide +kernel
theorem dX9_plan_52 : decode cX9_plan 52 = .ok (.ifCond .eq 7, 3) := by decide +kernel
theorem dX9_plan_55 : decode cX9_plan 55 = .ok (.iconst 1, 1) := by decide +kernel
theorem dX9_plan_56 : decode cX9_plan 56 = .ok (.goto 4, 3) := by decide +kernel
theorem dX9_plan_59 : decode cX9_plan 59 = .ok (.iconst 0, 1) := by decide +kernel
theorem dX9_plan_60 : decode cX9_plan 60 = .ok (.iastore, 1) := by decide +kernel
theorem dX9_plan_61 : decode cX9_plan 61 = .ok (.aload_n 0, 1) := by decide +kernel
theorem dX9_plan_62 : decode cX9_plan 62 = .ok (.getfield 46, 3) := by decide +kernel
theorem dX9_plan_65 : decode cX9_plan 65 = .ok (.bipush 10, 2) := by decide +kernel
theorem dX9_plan_67 : decode cX9_plan 67 = .ok (.iload_n 2, 1) := by decide +kernel
theorem dX9_plan_68 : decode cX9_plan 68 = .ok (.imul, 1) := by decide +kernel
theorem dX9_plan_69 : decode cX9_plan 69 = .ok (.iload_n 3, 1) := by decide +kernel
theorem dX9_plan_70 : decode cX9_plan 70 = .ok (.iadd, 1) := by decide +kernel
theorem dX9_plan_71 : decode cX9_plan 71 = .ok (.aload_n 0, 1) := by decide +kernel
theorem dX9_plan_72 : decode cX9_plan 72 = .ok (.iload_n 3, 1) := by decide +kernel
theorem dX9_plan_73 : decode cX9_plan 73 = .ok (.iload_n 2, 1) := by decide +kernel
theorem dX9_plan_74 : decode cX9_plan 74 = .ok (.invokevirtual 182, 3) := by decide +kernel
theorem dX9_plan_77 : decode cX9_plan 77 = .ok (.ifCond .eq 24, 3) := by decide +kernel
theorem dX9_plan_80 : decode cX9_plan 80 = .ok (.aload_n 0, 1) := by decide +kernel
theorem dX9_plan_81 : decode cX9_plan 81 = .ok (.getfield 28, 3) := by decide +kernel
theorem dX9_plan_84 : decode cX9_plan 84 = .ok (.bipush 8, 2) := by decide +kernel
theorem dX9_plan_86 : decode cX9_plan 86 = .ok (.iload_n 3, 1) := by decide +kernel
theorem dX9_plan_87 : decode cX9_plan 87 = .ok (.imul, 1) := by decide +kernel
theorem dX9_plan_88 : decode cX9_plan 88 = .ok (.iconst 1, 1) := by decide +kernel
theorem dX9_plan_89 : decode cX9_plan 89 = .ok (.iadd, 1) := by decide +kernel
theorem dX9_plan_90 : decode cX9_plan 90 = .ok (.iaload, 1) := by decide +kernel
theorem dX9_plan_91 : decode cX9_plan 91 = .ok (.aload_n 0, 1) := by decide +kernel
theorem dX9_plan_92 : decode cX9_plan 92 = .ok (.iload_n 3, 1) := by decide +kernel
theorem dX9_plan_93 : decode cX9_plan 93 = .ok (.iload_n 2, 1) := by decide +kernel
theorem dX9_plan_94 : decode cX9_plan 94 = .ok (.invokevirtual 197, 3) := by decide +kernel
theorem dX9_plan_97 : decode cX9_plan 97 = .ok (.isub, 1) := by decide +kernel
theorem dX9_plan_98 : decode cX9_plan 98 = .ok (.goto 4, 3) := by decide +kernel
theorem dX9_plan_101 : decode cX9_plan 101 = .ok (.iconst 0, 1) := by decide +kernel
theorem dX9_plan_102 : decode cX9_plan 102 = .ok (.iastore, 1) := by decide +kernel
theorem dX9_plan_103 : decode cX9_plan 103 = .ok (.iinc 3 1, 3) := by decide +kernel
theorem dX9_plan_106 : decode cX9_plan 106 = .ok (.goto (-78), 3) := by decide +kernel
theorem dX9_plan_109 : decode cX9_plan 109 = .ok (.iinc 2 1, 3) := by decide +kernel
theorem dX9_plan_112 : decode cX9_plan 112 = .ok (.goto (-94), 3) := by decide +kernel
theorem dX9_plan_115 : decode cX9_plan 115 = .ok (.aload_n 0, 1) := by decide +kernel
theorem dX9_plan_116 : decode cX9_plan 116 = .ok (.invokevirtual 205, 3) := by decide +kernel
theorem dX9_plan_119 : decode cX9_plan 119 = .ok (.aload_n 0, 1) := by decide +kernel
theorem dX9_plan_120 : decode cX9_plan 120 = .ok (.iload_n 1, 1) := by decide +kernel
theorem dX9_plan_121 : decode cX9_plan 121 = .ok (.invokevirtual 208, 3) := by decide +kernel
theorem dX9_plan_124 : decode cX9_plan 124 = .ok (.ireturn, 1) := by decide +kernel
theorem dX9_nearest_0 : decode cX9_nearest 0 = .ok (.aload_n 0, 1) := by decide +kernel
theorem dX9_nearest_1 : decode cX9_nearest 1 = .ok (.iload_n 1, 1) := by decide +kernel
theorem dX9_nearest_2 : decode cX9_nearest 2 = .ok (.invokevirtual 94, 3) := by decide +kernel
theorem dX9_nearest_5 : decode cX9_nearest 5 = .ok (.ifCond .eq 13, 3) := by decide +kernel
theorem dX9_nearest_8 : decode cX9_nearest 8 = .ok (.iload_n 2, 1) := by decide +kernel
theorem dX9_nearest_9 : decode cX9_nearest 9 = .ok (.i2l, 1) := by decide +kernel
theorem dX9_nearest_10 : decode cX9_nearest 10 = .ok (.lconst 0, 1) := by decide +kernel
theorem dX9_nearest_11 : decode cX9_nearest 11 = .ok (.lconst 1, 1) := by decide +kernel
theorem dX9_nearest_12 : decode cX9_nearest 12 = .ok (.invokestatic 75, 3) := by decide +kernel
theorem dX9_nearest_15 : decode cX9_nearest 15 = .ok (.ifCond .ne 5, 3) := by decide +kernel
theorem dX9_nearest_18 : decode cX9_nearest 18 = .ok (.iconst (-1), 1) := by decide +kernel
theorem dX9_nearest_19 : decode cX9_nearest 19 = .ok (.ireturn, 1) := by decide +kernel
theorem dX9_nearest_20 : decode cX9_nearest 20 = .ok (.bipush (-4), 2) := by decide +kernel
theorem dX9_nearest_22 : decode cX9_nearest 22 = .ok (.istore_n 3, 1) := by decide +kernel
theorem dX9_nearest_23 : decode cX9_nearest 23 = .ok (.iconst 0, 1) := by decide +kernel
theorem dX9_nearest_24 : decode cX9_nearest 24 = .ok (.istore 4, 2) := by decide +kernel
theorem dX9_nearest_26 : decode cX9_nearest 26 = .ok (.iconst 0, 1) := by decide +kernel
theorem dX9_nearest_27 : decode cX9_nearest 27 = .ok (.istore 5, 2) := by decide +kernel
theorem dX9_nearest_29 : decode cX9_nearest 29 = .ok (.iload 5, 2) := by decide +kernel
theorem dX9_nearest_31 : decode cX9_nearest 31 = .ok (.aload_n 0, 1) := by decide +kernel
theorem dX9_nearest_32 : decode cX9_nearest 32 = .ok (.getfield 83, 3) := by decide +kernel
theorem dX9_nearest_35 : decode cX9_nearest 35 = .ok (.if_icmp .ge 100, 3) := by decide +kernel
theorem dX9_nearest_38 : decode cX9_nearest 38 = .ok (.iconst 0, 1) := by decide +kernel
theorem dX9_nearest_39 : decode cX9_nearest 39 = .ok (.istore 6, 2) := by decide +kernel
theorem dX9_nearest_41 : decode cX9_nearest 41 = .ok (.iconst 0, 1) := by decide +kernel
theorem dX9_nearest_42 : decode cX9_nearest 42 = .ok (.istore 7, 2) := by decide +kernel
theorem dX9_nearest_44 : decode cX9_nearest 44 = .ok (.iload 7, 2) := by decide +kernel
theorem dX9_nearest_46 : decode cX9_nearest 46 = .ok (.aload_n 0, 1) := by decide +kernel
theorem dX9_nearest_47 : decode cX9_nearest 47 = .ok (.iload 5, 2) := by decide +kernel
theorem dX9_nearest_49 : decode cX9_nearest 49 = .ok (.invokevirtual 179, 3) := by decide +kernel
theorem dX9_nearest_52 : decode cX9_nearest 52 = .ok (.if_icmp .ge 49, 3) := by decide +kernel
theorem dX9_nearest_55 : decode cX9_nearest 55 = .ok (.aload_n 0, 1) := by decide +kernel
theorem dX9_nearest_56 : decode cX9_nearest 56 = .ok (.iload 5, 2) := by decide +kernel
theorem dX9_nearest_58 : decode cX9_nearest 58 = .ok (.iload_n 1, 1) := by decide +kernel
theorem dX9_nearest_59 : decode cX9_nearest 59 = .ok (.invokevirtual 182, 3) := by decide +kernel
theorem dX9_nearest_62 : decode cX9_nearest 62 = .ok (.ifCond .eq 39, 3) := by decide +kernel
theorem dX9_nearest_65 : decode cX9_nearest 65 = .ok (.iload 6, 2) := by decide +kernel
theorem dX9_nearest_67 : decode cX9_nearest 67 = .ok (.aload_n 0, 1) := by decide +kernel
theorem dX9_nearest_68 : decode cX9_nearest 68 = .ok (.iload_n 1, 1) := by decide +kernel
theorem dX9_nearest_69 : decode cX9_nearest 69 = .ok (.iload 7, 2) := by decide +kernel
theorem dX9_nearest_71 : decode cX9_nearest 71 = .ok (.iadd, 1) := by decide +kernel
theorem dX9_nearest_72 : decode cX9_nearest 72 = .ok (.invokevirtual 104, 3) := by decide +kernel
theorem dX9_nearest_75 : decode cX9_nearest 75 = .ok (.aload_n 0, 1) := by decide +kernel
theorem dX9_nearest_76 : decode cX9_nearest 76 = .ok (.getfield 7, 3) := by decide +kernel
theorem dX9_nearest_79 : decode cX9_nearest 79 = .ok (.aload_n 0, 1) := by decide +kernel
theorem dX9_nearest_80 : decode cX9_nearest 80 = .ok (.iload 5, 2) := by decide +kernel
theorem dX9_nearest_82 : decode cX9_nearest 82 = .ok (.iload 7, 2) := by decide +kernel
theorem dX9_nearest_84 : decode cX9_nearest 84 = .ok (.invokevirtual 185, 3) := by decide +kernel
theorem dX9_nearest_87 : decode cX9_nearest 87 = .ok (.iaload, 1) := by decide +kernel
theorem dX9_nearest_88 : decode cX9_nearest 88 = .ok (.ixor, 1) := by decide +kernel
theorem dX9_nearest_89 : decode cX9_nearest 89 = .ok (.invokestatic 108, 3) := by decide +kernel
theorem dX9_nearest_92 : decode cX9_nearest 92 = .ok (.iadd, 1) := by decide +kernel
theorem dX9_nearest_93 : decode cX9_nearest 93 = .ok (.istore 6, 2) := by decide +kernel
theorem dX9_nearest_95 : decode cX9_nearest 95 = .ok (.iinc 7 1, 3) := by decide +kernel
theorem dX9_nearest_98 : decode cX9_nearest 98 = .ok (.goto (-54), 3) := by decide +kernel
theorem dX9_nearest_101 : decode cX9_nearest 101 = .ok (.aload_n 0, 1) := by decide +kernel
theorem dX9_nearest_102 : decode cX9_nearest 102 = .ok (.iload 5, 2) := by decide +kernel
theorem dX9_nearest_104 : decode cX9_nearest 104 = .ok (.iload_n 1, 1) := by decide +kernel
theorem dX9_nearest_105 : decode cX9_nearest 105 = .ok (.invokevirtual 182, 3) := by decide +kernel
theorem dX9_nearest_108 : decode cX9_nearest 108 = .ok (.ifCond .eq 21, 3) := by decide +kernel
theorem dX9_nearest_111 : decode cX9_nearest 111 = .ok (.iload_n 3, 1) := by decide +kernel
theorem dX9_nearest_112 : decode cX9_nearest 112 = .ok (.ifCond .lt 10, 3) := by decide +kernel
theorem dX9_nearest_115 : decode cX9_nearest 115 = .ok (.iload 6, 2) := by decide +kernel
theorem dX9_nearest_117 : decode cX9_nearest 117 = .ok (.iload 4, 2) := by decide +kernel
theorem dX9_nearest_119 : decode cX9_nearest 119 = .ok (.if_icmp .ge 10, 3) := by decide +kernel
theorem dX9_nearest_122 : decode cX9_nearest 122 = .ok (.iload 5, 2) := by decide +kernel
theorem dX9_nearest_124 : decode cX9_nearest 124 = .ok (.istore_n 3, 1) := by decide +kernel
theorem dX9_nearest_125 : decode cX9_nearest 125 = .ok (.iload 6, 2) := by decide +kernel
theorem dX9_nearest_127 : decode cX9_nearest 127 = .ok (.istore 4, 2) := by decide +kernel
theorem dX9_nearest_129 : decode cX9_nearest 129 = .ok (.iinc 5 1, 3) := by decide +kernel
theorem dX9_nearest_132 : decode cX9_nearest 132 = .ok (.goto (-103), 3) := by decide +kernel
theorem dX9_nearest_135 : decode cX9_nearest 135 = .ok (.iload_n 3, 1) := by decide +kernel
theorem dX9_nearest_136 : decode cX9_nearest 136 = .ok (.ifCond .ge 8, 3) := by decide +kernel
theorem dX9_nearest_139 : decode cX9_nearest 139 = .ok (.bipush (-4), 2) := by decide +kernel
theorem dX9_nearest_141 : decode cX9_nearest 141 = .ok (.goto 13, 3) := by decide +kernel
theorem dX9_nearest_144 : decode cX9_nearest 144 = .ok (.iload_n 2, 1) := by decide +kernel
theorem dX9_nearest_145 : decode cX9_nearest 145 = .ok (.ifCond .ne 7, 3) := by decide +kernel
theorem dX9_nearest_148 : decode cX9_nearest 148 = .ok (.iload_n 3, 1) := by decide +kernel
theorem dX9_nearest_149 : decode cX9_nearest 149 = .ok (.goto 5, 3) := by decide +kernel
theorem dX9_nearest_152 : decode cX9_nearest 152 = .ok (.iload 4, 2) := by decide +kernel
theorem dX9_nearest_154 : decode cX9_nearest 154 = .ok (.ireturn, 1) := by decide +kernel
theorem dX9_write_0 : decode cX9_write 0 = .ok (.aload_n 0, 1) := by decide +kernel
theorem dX9_write_1 : decode cX9_write 1 = .ok (.iload_n 1, 1) := by decide +kernel
theorem dX9_write_2 : decode cX9_write 2 = .ok (.invokevirtual 174, 3) := by decide +kernel
theorem dX9_write_5 : decode cX9_write 5 = .ok (.ifCond .eq 11, 3) := by decide +kernel
theorem dX9_write_8 : decode cX9_write 8 = .ok (.aload_n 0, 1) := by decide +kernel
theorem dX9_write_9 : decode cX9_write 9 = .ok (.iload_n 2, 1) := by decide +kernel
theorem dX9_write_10 : decode cX9_write 10 = .ok (.invokevirtual 94, 3) := by decide +kernel
theorem dX9_write_13 : decode cX9_write 13 = .ok (.ifCond .ne 5, 3) := by decide +kernel
theorem dX9_write_16 : decode cX9_write 16 = .ok (.iconst (-1), 1) := by decide +kernel
theorem dX9_write_17 : decode cX9_write 17 = .ok (.ireturn, 1) := by decide +kernel
theorem dX9_write_18 : decode cX9_write 18 = .ok (.aload_n 0, 1) := by decide +kernel
theorem dX9_write_19 : decode cX9_write 19 = .ok (.iload_n 1, 1) := by decide +kernel
theorem dX9_write_20 : decode cX9_write 20 = .ok (.iload_n 2, 1) := by decide +kernel
theorem dX9_write_21 : decode cX9_write 21 = .ok (.invokevirtual 191, 3) := by decide +kernel
theorem dX9_write_24 : decode cX9_write 24 = .ok (.ifCond .ne 6, 3) := by decide +kernel
theorem dX9_write_27 : decode cX9_write 27 = .ok (.bipush (-2), 2) := by decide +kernel
theorem dX9_write_29 : decode cX9_write 29 = .ok (.ireturn, 1) := by decide +kernel
theorem dX9_write_30 : decode cX9_write 30 = .ok (.iconst 0, 1) := by decide +kernel
theorem dX9_write_31 : decode cX9_write 31 = .ok (.istore_n 3, 1) := by decide +kernel
theorem dX9_write_32 : decode cX9_write 32 = .ok (.iconst 0, 1) := by decide +kernel
theorem dX9_write_33 : decode cX9_write 33 = .ok (.istore 4, 2) := by decide +kernel
theorem dX9_write_35 : decode cX9_write 35 = .ok (.iload 4, 2) := by decide +kernel
theorem dX9_write_37 : decode cX9_write 37 = .ok (.aload_n 0, 1) := by decide +kernel
theorem dX9_write_38 : decode cX9_write 38 = .ok (.iload_n 1, 1) := by decide +kernel
theorem dX9_write_39 : decode cX9_write 39 = .ok (.invokevirtual 179, 3) := by decide +kernel
theorem dX9_write_42 : decode cX9_write 42 = .ok (.if_icmp .ge 32, 3) := by decide +kernel
theorem dX9_write_45 : decode cX9_write 45 = .ok (.iload_n 3, 1) := by decide +kernel
theorem dX9_write_46 : decode cX9_write 46 = .ok (.aload_n 0, 1) := by decide +kernel
theorem dX9_write_47 : decode cX9_write 47 = .ok (.iload_n 2, 1) := by decide +kernel
theorem dX9_write_48 : decode cX9_write 48 = .ok (.iload 4, 2) := by decide +kernel
theorem dX9_write_50 : decode cX9_write 50 = .ok (.iadd, 1) := by decide +kernel
theorem dX9_write_51 : decode cX9_write 51 = .ok (.aload_n 0, 1) := by decide +kernel
theorem dX9_write_52 : decode cX9_write 52 = .ok (.getfield 7, 3) := by decide +kernel
theorem dX9_write_55 : decode cX9_write 55 = .ok (.aload_n 0, 1) := by decide +kernel
theorem dX9_write_56 : decode cX9_write 56 = .ok (.iload_n 1, 1) := by decide +kernel
theorem dX9_write_57 : decode cX9_write 57 = .ok (.iload 4, 2) := by decide +kernel
theorem dX9_write_59 : decode cX9_write 59 = .ok (.invokevirtual 185, 3) := by decide +kernel
theorem dX9_write_62 : decode cX9_write 62 = .ok (.iaload, 1) := by decide +kernel
theorem dX9_write_63 : decode cX9_write 63 = .ok (.invokevirtual 124, 3) := by decide +kernel
theorem dX9_write_66 : decode cX9_write 66 = .ok (.iadd, 1) := by decide +kernel
theorem dX9_write_67 : decode cX9_write 67 = .ok (.istore_n 3, 1) := by decide +kernel
theorem dX9_write_68 : decode cX9_write 68 = .ok (.iinc 4 1, 3) := by decide +kernel
theorem dX9_write_71 : decode cX9_write 71 = .ok (.goto (-36), 3) := by decide +kernel
theorem dX9_write_74 : decode cX9_write 74 = .ok (.iload_n 3, 1) := by decide +kernel
theorem dX9_write_75 : decode cX9_write 75 = .ok (.ireturn, 1) := by decide +kernel
theorem dX9_share_0 : decode cX9_share 0 = .ok (.aload_n 0, 1) := by decide +kernel
theorem dX9_share_1 : decode cX9_share 1 = .ok (.iload_n 1, 1) := by decide +kernel
theorem dX9_share_2 : decode cX9_share 2 = .ok (.invokevirtual 174, 3) := by decide +kernel
theorem dX9_share_5 : decode cX9_share 5 = .ok (.ifCond .eq 23, 3) := by decide +kernel
theorem dX9_share_8 : decode cX9_share 8 = .ok (.aload_n 0, 1) := by decide +kernel
theorem dX9_share_9 : decode cX9_share 9 = .ok (.iload_n 2, 1) := by decide +kernel
theorem dX9_share_10 : decode cX9_share 10 = .ok (.invokevirtual 94, 3) := by decide +kernel
theorem dX9_share_13 : decode cX9_share 13 = .ok (.ifCond .eq 15, 3) := by decide +kernel
theorem dX9_share_16 : decode cX9_share 16 = .ok (.iload_n 3, 1) := by decide +kernel
theorem dX9_share_17 : decode cX9_share 17 = .ok (.i2l, 1) := by decide +kernel
theorem dX9_share_18 : decode cX9_share 18 = .ok (.lconst 0, 1) := by decide +kernel
theorem dX9_share_19 : decode cX9_share 19 = .ok (.ldc2_w 86, 3) := by decide +kernel
theorem dX9_share_22 : decode cX9_share 22 = .ok (.invokestatic 75, 3) := by decide +kernel
theorem dX9_share_25 : decode cX9_share 25 = .ok (.ifCond .ne 5, 3) := by decide +kernel
theorem dX9_share_28 : decode cX9_share 28 = .ok (.iconst (-1), 1) := by decide +kernel
theorem dX9_share_29 : decode cX9_share 29 = .ok (.ireturn, 1) := by decide +kernel
theorem dX9_share_30 : decode cX9_share 30 = .ok (.aload_n 0, 1) := by decide +kernel
theorem dX9_share_31 : decode cX9_share 31 = .ok (.iload_n 1, 1) := by decide +kernel
theorem dX9_share_32 : decode cX9_share 32 = .ok (.iload_n 2, 1) := by decide +kernel
theorem dX9_share_33 : decode cX9_share 33 = .ok (.invokevirtual 182, 3) := by decide +kernel
theorem dX9_share_36 : decode cX9_share 36 = .ok (.ifCond .ne 6, 3) := by decide +kernel
theorem dX9_share_39 : decode cX9_share 39 = .ok (.bipush (-2), 2) := by decide +kernel
theorem dX9_share_41 : decode cX9_share 41 = .ok (.ireturn, 1) := by decide +kernel
theorem dX9_share_42 : decode cX9_share 42 = .ok (.aload_n 0, 1) := by decide +kernel
theorem dX9_share_43 : decode cX9_share 43 = .ok (.getfield 28, 3) := by decide +kernel
theorem dX9_share_46 : decode cX9_share 46 = .ok (.bipush 8, 2) := by decide +kernel
theorem dX9_share_48 : decode cX9_share 48 = .ok (.iload_n 1, 1) := by decide +kernel
theorem dX9_share_49 : decode cX9_share 49 = .ok (.imul, 1) := by decide +kernel
theorem dX9_share_50 : decode cX9_share 50 = .ok (.iconst 1, 1) := by decide +kernel
theorem dX9_share_51 : decode cX9_share 51 = .ok (.iadd, 1) := by decide +kernel
theorem dX9_share_52 : decode cX9_share 52 = .ok (.iaload, 1) := by decide +kernel
theorem dX9_share_53 : decode cX9_share 53 = .ok (.aload_n 0, 1) := by decide +kernel
theorem dX9_share_54 : decode cX9_share 54 = .ok (.iload_n 1, 1) := by decide +kernel
theorem dX9_share_55 : decode cX9_share 55 = .ok (.iload_n 2, 1) := by decide +kernel
theorem dX9_share_56 : decode cX9_share 56 = .ok (.invokevirtual 197, 3) := by decide +kernel
theorem dX9_share_59 : decode cX9_share 59 = .ok (.isub, 1) := by decide +kernel
theorem dX9_share_60 : decode cX9_share 60 = .ok (.istore 4, 2) := by decide +kernel
theorem dX9_share_62 : decode cX9_share 62 = .ok (.iload 4, 2) := by decide +kernel
theorem dX9_share_64 : decode cX9_share 64 = .ok (.ifCond .ge 6, 3) := by decide +kernel
theorem dX9_share_67 : decode cX9_share 67 = .ok (.bipush (-2), 2) := by decide +kernel
theorem dX9_share_69 : decode cX9_share 69 = .ok (.ireturn, 1) := by decide +kernel
theorem dX9_share_70 : decode cX9_share 70 = .ok (.aload_n 0, 1) := by decide +kernel
theorem dX9_share_71 : decode cX9_share 71 = .ok (.iload_n 1, 1) := by decide +kernel
theorem dX9_share_72 : decode cX9_share 72 = .ok (.invokevirtual 179, 3) := by decide +kernel
theorem dX9_share_75 : decode cX9_share 75 = .ok (.istore 5, 2) := by decide +kernel
theorem dX9_share_77 : decode cX9_share 77 = .ok (.iconst 0, 1) := by decide +kernel
theorem dX9_share_78 : decode cX9_share 78 = .ok (.istore 6, 2) := by decide +kernel
theorem dX9_share_80 : decode cX9_share 80 = .ok (.iconst 0, 1) := by decide +kernel
theorem dX9_share_81 : decode cX9_share 81 = .ok (.istore 7, 2) := by decide +kernel
theorem dX9_share_83 : decode cX9_share 83 = .ok (.iload 7, 2) := by decide +kernel
theorem dX9_share_85 : decode cX9_share 85 = .ok (.iload 5, 2) := by decide +kernel
theorem dX9_share_87 : decode cX9_share 87 = .ok (.if_icmp .ge 72, 3) := by decide +kernel
theorem dX9_share_90 : decode cX9_share 90 = .ok (.aload_n 0, 1) := by decide +kernel
theorem dX9_share_91 : decode cX9_share 91 = .ok (.iload_n 2, 1) := by decide +kernel
theorem dX9_share_92 : decode cX9_share 92 = .ok (.iload 7, 2) := by decide +kernel
theorem dX9_share_94 : decode cX9_share 94 = .ok (.iadd, 1) := by decide +kernel
theorem dX9_share_95 : decode cX9_share 95 = .ok (.aload_n 0, 1) := by decide +kernel
theorem dX9_share_96 : decode cX9_share 96 = .ok (.iload_n 1, 1) := by decide +kernel
theorem dX9_share_97 : decode cX9_share 97 = .ok (.iload 7, 2) := by decide +kernel
theorem dX9_share_99 : decode cX9_share 99 = .ok (.invokevirtual 185, 3) := by decide +kernel
theorem dX9_share_102 : decode cX9_share 102 = .ok (.invokevirtual 194, 3) := by decide +kernel
theorem dX9_share_105 : decode cX9_share 105 = .ok (.iload 4, 2) := by decide +kernel
theorem dX9_share_107 : decode cX9_share 107 = .ok (.iload 5, 2) := by decide +kernel
theorem dX9_share_109 : decode cX9_share 109 = .ok (.idiv, 1) := by decide +kernel
theorem dX9_share_110 : decode cX9_share 110 = .ok (.iadd, 1) := by decide +kernel
theorem dX9_share_111 : decode cX9_share 111 = .ok (.iload 7, 2) := by decide +kernel
theorem dX9_share_113 : decode cX9_share 113 = .ok (.iload 4, 2) := by decide +kernel
theorem dX9_share_115 : decode cX9_share 115 = .ok (.iload 5, 2) := by decide +kernel
theorem dX9_share_117 : decode cX9_share 117 = .ok (.irem, 1) := by decide +kernel
theorem dX9_share_118 : decode cX9_share 118 = .ok (.if_icmp .ge 7, 3) := by decide +kernel
theorem dX9_share_121 : decode cX9_share 121 = .ok (.iconst 1, 1) := by decide +kernel
theorem dX9_share_122 : decode cX9_share 122 = .ok (.goto 4, 3) := by decide +kernel
theorem dX9_share_125 : decode cX9_share 125 = .ok (.iconst 0, 1) := by decide +kernel
theorem dX9_share_126 : decode cX9_share 126 = .ok (.iadd, 1) := by decide +kernel
theorem dX9_share_127 : decode cX9_share 127 = .ok (.istore 8, 2) := by decide +kernel
theorem dX9_share_129 : decode cX9_share 129 = .ok (.iload 6, 2) := by decide +kernel
theorem dX9_share_131 : decode cX9_share 131 = .ok (.aload_n 0, 1) := by decide +kernel
theorem dX9_share_132 : decode cX9_share 132 = .ok (.getfield 13, 3) := by decide +kernel
theorem dX9_share_135 : decode cX9_share 135 = .ok (.iload_n 2, 1) := by decide +kernel
theorem dX9_share_136 : decode cX9_share 136 = .ok (.iload 7, 2) := by decide +kernel
theorem dX9_share_138 : decode cX9_share 138 = .ok (.iadd, 1) := by decide +kernel
theorem dX9_share_139 : decode cX9_share 139 = .ok (.iaload, 1) := by decide +kernel
theorem dX9_share_140 : decode cX9_share 140 = .ok (.iload_n 3, 1) := by decide +kernel
theorem dX9_share_141 : decode cX9_share 141 = .ok (.if_icmp .ne 8, 3) := by decide +kernel
theorem dX9_share_144 : decode cX9_share 144 = .ok (.iload 8, 2) := by decide +kernel
theorem dX9_share_146 : decode cX9_share 146 = .ok (.goto 4, 3) := by decide +kernel
theorem dX9_share_149 : decode cX9_share 149 = .ok (.iconst 0, 1) := by decide +kernel
theorem dX9_share_150 : decode cX9_share 150 = .ok (.iadd, 1) := by decide +kernel
theorem dX9_share_151 : decode cX9_share 151 = .ok (.istore 6, 2) := by decide +kernel
theorem dX9_share_153 : decode cX9_share 153 = .ok (.iinc 7 1, 3) := by decide +kernel
theorem dX9_share_156 : decode cX9_share 156 = .ok (.goto (-73), 3) := by decide +kernel
theorem dX9_share_159 : decode cX9_share 159 = .ok (.iload 6, 2) := by decide +kernel
theorem dX9_share_161 : decode cX9_share 161 = .ok (.ireturn, 1) := by decide +kernel
theorem dX9_power_0 : decode cX9_power 0 = .ok (.lconst 1, 1) := by decide +kernel
theorem dX9_power_1 : decode cX9_power 1 = .ok (.lstore_n 2, 1) := by decide +kernel
theorem dX9_power_2 : decode cX9_power 2 = .ok (.iconst 0, 1) := by decide +kernel
theorem dX9_power_3 : decode cX9_power 3 = .ok (.istore 4, 2) := by decide +kernel
theorem dX9_power_5 : decode cX9_power 5 = .ok (.iload 4, 2) := by decide +kernel
theorem dX9_power_7 : decode cX9_power 7 = .ok (.iload_n 1, 1) := by decide +kernel
theorem dX9_power_8 : decode cX9_power 8 = .ok (.if_icmp .ge 14, 3) := by decide +kernel
theorem dX9_power_11 : decode cX9_power 11 = .ok (.lload_n 2, 1) := by decide +kernel
theorem dX9_power_12 : decode cX9_power 12 = .ok (.iload_n 0, 1) := by decide +kernel
theorem dX9_power_13 : decode cX9_power 13 = .ok (.i2l, 1) := by decide +kernel
theorem dX9_power_14 : decode cX9_power 14 = .ok (.lmul, 1) := by decide +kernel
theorem dX9_power_15 : decode cX9_power 15 = .ok (.lstore_n 2, 1) := by decide +kernel
theorem dX9_power_16 : decode cX9_power 16 = .ok (.iinc 4 1, 3) := by decide +kernel
theorem dX9_power_19 : decode cX9_power 19 = .ok (.goto (-14), 3) := by decide +kernel
theorem dX9_power_22 : decode cX9_power 22 = .ok (.lload_n 2, 1) := by decide +kernel
theorem dX9_power_23 : decode cX9_power 23 = .ok (.lreturn, 1) := by decide +kernel
theorem dX9_findOdds_0 : decode cX9_findOdds 0 = .ok (.iconst 0, 1) := by decide +kernel
theorem dX9_findOdds_1 : decode cX9_findOdds 1 = .ok (.istore_n 3, 1) := by decide +kernel
theorem dX9_findOdds_2 : decode cX9_findOdds 2 = .ok (.iload_n 3, 1) := by decide +kernel
theorem dX9_findOdds_3 : decode cX9_findOdds 3 = .ok (.bipush 26, 2) := by decide +kernel
theorem dX9_findOdds_5 : decode cX9_findOdds 5 = .ok (.if_icmp .ge 16, 3) := by decide +kernel
theorem dX9_findOdds_8 : decode cX9_findOdds 8 = .ok (.aload_n 0, 1) := by decide +kernel
theorem dX9_findOdds_9 : decode cX9_findOdds 9 = .ok (.getfield 49, 3) := by decide +kernel
theorem dX9_findOdds_12 : decode cX9_findOdds 12 = .ok (.iload_n 3, 1) := by decide +kernel
theorem dX9_findOdds_13 : decode cX9_findOdds 13 = .ok (.lconst 0, 1) := by decide +kernel
theorem dX9_findOdds_14 : decode cX9_findOdds 14 = .ok (.lastore, 1) := by decide +kernel
theorem dX9_findOdds_15 : decode cX9_findOdds 15 = .ok (.iinc 3 1, 3) := by decide +kernel
theorem dX9_findOdds_18 : decode cX9_findOdds 18 = .ok (.goto (-16), 3) := by decide +kernel
theorem dX9_findOdds_21 : decode cX9_findOdds 21 = .ok (.iconst 0, 1) := by decide +kernel
theorem dX9_findOdds_22 : decode cX9_findOdds 22 = .ok (.istore_n 3, 1) := by decide +kernel
theorem dX9_findOdds_23 : decode cX9_findOdds 23 = .ok (.iload_n 3, 1) := by decide +kernel
theorem dX9_findOdds_24 : decode cX9_findOdds 24 = .ok (.ldc 211, 2) := by decide +kernel
theorem dX9_findOdds_26 : decode cX9_findOdds 26 = .ok (.if_icmp .ge 79, 3) := by decide +kernel
theorem dX9_findOdds_29 : decode cX9_findOdds 29 = .ok (.iload_n 3, 1) := by decide +kernel
theorem dX9_findOdds_30 : decode cX9_findOdds 30 = .ok (.invokestatic 108, 3) := by decide +kernel
theorem dX9_findOdds_33 : decode cX9_findOdds 33 = .ok (.istore 4, 2) := by decide +kernel
theorem dX9_findOdds_35 : decode cX9_findOdds 35 = .ok (.iload_n 2, 1) := by decide +kernel
theorem dX9_findOdds_36 : decode cX9_findOdds 36 = .ok (.iload 4, 2) := by decide +kernel
theorem dX9_findOdds_38 : decode cX9_findOdds 38 = .ok (.invokestatic 212, 3) := by decide +kernel
theorem dX9_findOdds_41 : decode cX9_findOdds 41 = .ok (.bipush 16, 2) := by decide +kernel
theorem dX9_findOdds_43 : decode cX9_findOdds 43 = .ok (.iload_n 2, 1) := by decide +kernel
theorem dX9_findOdds_44 : decode cX9_findOdds 44 = .ok (.isub, 1) := by decide +kernel
theorem dX9_findOdds_45 : decode cX9_findOdds 45 = .ok (.bipush 15, 2) := by decide +kernel
theorem dX9_findOdds_47 : decode cX9_findOdds 47 = .ok (.iload 4, 2) := by decide +kernel
theorem dX9_findOdds_49 : decode cX9_findOdds 49 = .ok (.isub, 1) := by decide +kernel
theorem dX9_findOdds_50 : decode cX9_findOdds 50 = .ok (.invokestatic 212, 3) := by decide +kernel
theorem dX9_findOdds_53 : decode cX9_findOdds 53 = .ok (.lmul, 1) := by decide +kernel
theorem dX9_findOdds_54 : decode cX9_findOdds 54 = .ok (.lstore 5, 2) := by decide +kernel
theorem dX9_findOdds_56 : decode cX9_findOdds 56 = .ok (.lload 5, 2) := by decide +kernel
theorem dX9_findOdds_58 : decode cX9_findOdds 58 = .ok (.lconst 0, 1) := by decide +kernel
theorem dX9_findOdds_59 : decode cX9_findOdds 59 = .ok (.lcmp, 1) := by decide +kernel
theorem dX9_findOdds_60 : decode cX9_findOdds 60 = .ok (.ifCond .ne 8, 3) := by decide +kernel
theorem dX9_findOdds_63 : decode cX9_findOdds 63 = .ok (.bipush (-4), 2) := by decide +kernel
theorem dX9_findOdds_65 : decode cX9_findOdds 65 = .ok (.goto 15, 3) := by decide +kernel
theorem dX9_findOdds_68 : decode cX9_findOdds 68 = .ok (.aload_n 0, 1) := by decide +kernel
theorem dX9_findOdds_69 : decode cX9_findOdds 69 = .ok (.aload_n 0, 1) := by decide +kernel
theorem dX9_findOdds_70 : decode cX9_findOdds 70 = .ok (.getfield 7, 3) := by decide +kernel
theorem dX9_findOdds_73 : decode cX9_findOdds 73 = .ok (.iload_n 1, 1) := by decide +kernel
theorem dX9_findOdds_74 : decode cX9_findOdds 74 = .ok (.iaload, 1) := by decide +kernel
theorem dX9_findOdds_75 : decode cX9_findOdds 75 = .ok (.iload_n 3, 1) := by decide +kernel
theorem dX9_findOdds_76 : decode cX9_findOdds 76 = .ok (.ixor, 1) := by decide +kernel
theorem dX9_findOdds_77 : decode cX9_findOdds 77 = .ok (.invokevirtual 114, 3) := by decide +kernel
theorem dX9_findOdds_80 : decode cX9_findOdds 80 = .ok (.istore 7, 2) := by decide +kernel
theorem dX9_findOdds_82 : decode cX9_findOdds 82 = .ok (.iload 7, 2) := by decide +kernel
theorem dX9_findOdds_84 : decode cX9_findOdds 84 = .ok (.ifCond .lt 15, 3) := by decide +kernel
theorem dX9_findOdds_87 : decode cX9_findOdds 87 = .ok (.aload_n 0, 1) := by decide +kernel
theorem dX9_findOdds_88 : decode cX9_findOdds 88 = .ok (.getfield 49, 3) := by decide +kernel
theorem dX9_findOdds_91 : decode cX9_findOdds 91 = .ok (.iload 7, 2) := by decide +kernel
theorem dX9_findOdds_93 : decode cX9_findOdds 93 = .ok (.dup2, 1) := by decide +kernel
theorem dX9_findOdds_94 : decode cX9_findOdds 94 = .ok (.laload, 1) := by decide +kernel
theorem dX9_findOdds_95 : decode cX9_findOdds 95 = .ok (.lload 5, 2) := by decide +kernel
theorem dX9_findOdds_97 : decode cX9_findOdds 97 = .ok (.ladd, 1) := by decide +kernel
theorem dX9_findOdds_98 : decode cX9_findOdds 98 = .ok (.lastore, 1) := by decide +kernel
theorem dX9_findOdds_99 : decode cX9_findOdds 99 = .ok (.iinc 3 1, 3) := by decide +kernel
theorem dX9_findOdds_102 : decode cX9_findOdds 102 = .ok (.goto (-79), 3) := by decide +kernel
theorem dX9_findOdds_105 : decode cX9_findOdds 105 = .ok (.return_, 1) := by decide +kernel
theorem dX9_sure_0 : decode cX9_sure 0 = .ok (.iload_n 1, 1) := by decide +kernel
theorem dX9_sure_1 : decode cX9_sure 1 = .ok (.invokestatic 101, 3) := by decide +kernel
theorem dX9_sure_4 : decode cX9_sure 4 = .ok (.ifCond .eq 15, 3) := by decide +kernel
theorem dX9_sure_7 : decode cX9_sure 7 = .ok (.iload_n 2, 1) := by decide +kernel
theorem dX9_sure_8 : decode cX9_sure 8 = .ok (.i2l, 1) := by decide +kernel
theorem dX9_sure_9 : decode cX9_sure 9 = .ok (.lconst 0, 1) := by decide +kernel
theorem dX9_sure_10 : decode cX9_sure 10 = .ok (.ldc2_w 133, 3) := by decide +kernel
theorem dX9_sure_13 : decode cX9_sure 13 = .ok (.invokestatic 75, 3) := by decide +kernel
theorem dX9_sure_16 : decode cX9_sure 16 = .ok (.ifCond .ne 5, 3) := by decide +kernel
theorem dX9_sure_19 : decode cX9_sure 19 = .ok (.iconst (-1), 1) := by decide +kernel
theorem dX9_sure_20 : decode cX9_sure 20 = .ok (.ireturn, 1) := by decide +kernel
theorem dX9_sure_21 : decode cX9_sure 21 = .ok (.aload_n 0, 1) := by decide +kernel
theorem dX9_sure_22 : decode cX9_sure 22 = .ok (.iload_n 1, 1) := by decide +kernel
theorem dX9_sure_23 : decode cX9_sure 23 = .ok (.iload_n 2, 1) := by decide +kernel
theorem dX9_sure_24 : decode cX9_sure 24 = .ok (.invokevirtual 216, 3) := by decide +kernel
theorem dX9_sure_27 : decode cX9_sure 27 = .ok (.aload_n 0, 1) := by decide +kernel
theorem dX9_sure_28 : decode cX9_sure 28 = .ok (.getfield 49, 3) := by decide +kernel
theorem dX9_sure_31 : decode cX9_sure 31 = .ok (.iload_n 1, 1) := by decide +kernel
theorem dX9_sure_32 : decode cX9_sure 32 = .ok (.laload, 1) := by decide +kernel
theorem dX9_sure_33 : decode cX9_sure 33 = .ok (.bipush 30, 2) := by decide +kernel
theorem dX9_sure_35 : decode cX9_sure 35 = .ok (.lshr, 1) := by decide +kernel
theorem dX9_sure_36 : decode cX9_sure 36 = .ok (.lstore_n 3, 1) := by decide +kernel
theorem dX9_sure_37 : decode cX9_sure 37 = .ok (.aload_n 0, 1) := by decide +kernel
theorem dX9_sure_38 : decode cX9_sure 38 = .ok (.getfield 49, 3) := by decide +kernel
theorem dX9_sure_41 : decode cX9_sure 41 = .ok (.iload_n 1, 1) := by decide +kernel
theorem dX9_sure_42 : decode cX9_sure 42 = .ok (.laload, 1) := by decide +kernel
theorem dX9_sure_43 : decode cX9_sure 43 = .ok (.ldc2_w 220, 3) := by decide +kernel
theorem dX9_sure_46 : decode cX9_sure 46 = .ok (.land, 1) := by decide +kernel
theorem dX9_sure_47 : decode cX9_sure 47 = .ok (.lstore 5, 2) := by decide +kernel
theorem dX9_sure_49 : decode cX9_sure 49 = .ok (.ldc2_w 222, 3) := by decide +kernel
theorem dX9_sure_52 : decode cX9_sure 52 = .ok (.lload_n 3, 1) := by decide +kernel
theorem dX9_sure_53 : decode cX9_sure 53 = .ok (.lmul, 1) := by decide +kernel
theorem dX9_sure_54 : decode cX9_sure 54 = .ok (.ldc2_w 222, 3) := by decide +kernel
theorem dX9_sure_57 : decode cX9_sure 57 = .ok (.lload 5, 2) := by decide +kernel
theorem dX9_sure_59 : decode cX9_sure 59 = .ok (.lmul, 1) := by decide +kernel
theorem dX9_sure_60 : decode cX9_sure 60 = .ok (.bipush 30, 2) := by decide +kernel
theorem dX9_sure_62 : decode cX9_sure 62 = .ok (.lshr, 1) := by decide +kernel
theorem dX9_sure_63 : decode cX9_sure 63 = .ok (.ladd, 1) := by decide +kernel
theorem dX9_sure_64 : decode cX9_sure 64 = .ok (.bipush 30, 2) := by decide +kernel
theorem dX9_sure_66 : decode cX9_sure 66 = .ok (.lshr, 1) := by decide +kernel
theorem dX9_sure_67 : decode cX9_sure 67 = .ok (.l2i, 1) := by decide +kernel
theorem dX9_sure_68 : decode cX9_sure 68 = .ok (.ireturn, 1) := by decide +kernel
theorem dX9_taken_0 : decode cX9_taken 0 = .ok (.iload_n 1, 1) := by decide +kernel
theorem dX9_taken_1 : decode cX9_taken 1 = .ok (.invokestatic 101, 3) := by decide +kernel
theorem dX9_taken_4 : decode cX9_taken 4 = .ok (.ifCond .eq 15, 3) := by decide +kernel
theorem dX9_taken_7 : decode cX9_taken 7 = .ok (.iload_n 2, 1) := by decide +kernel
theorem dX9_taken_8 : decode cX9_taken 8 = .ok (.i2l, 1) := by decide +kernel
theorem dX9_taken_9 : decode cX9_taken 9 = .ok (.lconst 0, 1) := by decide +kernel
theorem dX9_taken_10 : decode cX9_taken 10 = .ok (.ldc2_w 133, 3) := by decide +kernel
theorem dX9_taken_13 : decode cX9_taken 13 = .ok (.invokestatic 75, 3) := by decide +kernel
theorem dX9_taken_16 : decode cX9_taken 16 = .ok (.ifCond .ne 5, 3) := by decide +kernel
theorem dX9_taken_19 : decode cX9_taken 19 = .ok (.iconst (-1), 1) := by decide +kernel
theorem dX9_taken_20 : decode cX9_taken 20 = .ok (.ireturn, 1) := by decide +kernel
theorem dX9_taken_21 : decode cX9_taken 21 = .ok (.aload_n 0, 1) := by decide +kernel
theorem dX9_taken_22 : decode cX9_taken 22 = .ok (.iload_n 1, 1) := by decide +kernel
theorem dX9_taken_23 : decode cX9_taken 23 = .ok (.iload_n 2, 1) := by decide +kernel
theorem dX9_taken_24 : decode cX9_taken 24 = .ok (.invokevirtual 216, 3) := by decide +kernel
theorem dX9_taken_27 : decode cX9_taken 27 = .ok (.bipush (-4), 2) := by decide +kernel
theorem dX9_taken_29 : decode cX9_taken 29 = .ok (.istore_n 3, 1) := by decide +kernel
theorem dX9_taken_30 : decode cX9_taken 30 = .ok (.lconst 0, 1) := by decide +kernel
theorem dX9_taken_31 : decode cX9_taken 31 = .ok (.lstore 4, 2) := by decide +kernel
theorem dX9_taken_33 : decode cX9_taken 33 = .ok (.iconst 0, 1) := by decide +kernel
theorem dX9_taken_34 : decode cX9_taken 34 = .ok (.istore 6, 2) := by decide +kernel
theorem dX9_taken_36 : decode cX9_taken 36 = .ok (.iload 6, 2) := by decide +kernel
theorem dX9_taken_38 : decode cX9_taken 38 = .ok (.bipush 26, 2) := by decide +kernel
theorem dX9_taken_40 : decode cX9_taken 40 = .ok (.if_icmp .ge 40, 3) := by decide +kernel
theorem dX9_taken_43 : decode cX9_taken 43 = .ok (.iload 6, 2) := by decide +kernel
theorem dX9_taken_45 : decode cX9_taken 45 = .ok (.iload_n 1, 1) := by decide +kernel
theorem dX9_taken_46 : decode cX9_taken 46 = .ok (.if_icmp .eq 28, 3) := by decide +kernel
theorem dX9_taken_49 : decode cX9_taken 49 = .ok (.aload_n 0, 1) := by decide +kernel
theorem dX9_taken_50 : decode cX9_taken 50 = .ok (.getfield 49, 3) := by decide +kernel
theorem dX9_taken_53 : decode cX9_taken 53 = .ok (.iload 6, 2) := by decide +kernel
theorem dX9_taken_55 : decode cX9_taken 55 = .ok (.laload, 1) := by decide +kernel
theorem dX9_taken_56 : decode cX9_taken 56 = .ok (.lload 4, 2) := by decide +kernel
theorem dX9_taken_58 : decode cX9_taken 58 = .ok (.lcmp, 1) := by decide +kernel
theorem dX9_taken_59 : decode cX9_taken 59 = .ok (.ifCond .le 15, 3) := by decide +kernel
theorem dX9_taken_62 : decode cX9_taken 62 = .ok (.iload 6, 2) := by decide +kernel
theorem dX9_taken_64 : decode cX9_taken 64 = .ok (.istore_n 3, 1) := by decide +kernel
theorem dX9_taken_65 : decode cX9_taken 65 = .ok (.aload_n 0, 1) := by decide +kernel
theorem dX9_taken_66 : decode cX9_taken 66 = .ok (.getfield 49, 3) := by decide +kernel
theorem dX9_taken_69 : decode cX9_taken 69 = .ok (.iload 6, 2) := by decide +kernel
theorem dX9_taken_71 : decode cX9_taken 71 = .ok (.laload, 1) := by decide +kernel
theorem dX9_taken_72 : decode cX9_taken 72 = .ok (.lstore 4, 2) := by decide +kernel
theorem dX9_taken_74 : decode cX9_taken 74 = .ok (.iinc 6 1, 3) := by decide +kernel
theorem dX9_taken_77 : decode cX9_taken 77 = .ok (.goto (-41), 3) := by decide +kernel
theorem dX9_taken_80 : decode cX9_taken 80 = .ok (.iload_n 3, 1) := by decide +kernel
theorem dX9_taken_81 : decode cX9_taken 81 = .ok (.ireturn, 1) := by decide +kernel
theorem dX9_fades_0 : decode cX9_fades 0 = .ok (.aload_n 0, 1) := by decide +kernel
theorem dX9_fades_1 : decode cX9_fades 1 = .ok (.iload_n 1, 1) := by decide +kernel
theorem dX9_fades_2 : decode cX9_fades 2 = .ok (.invokevirtual 174, 3) := by decide +kernel
theorem dX9_fades_5 : decode cX9_fades 5 = .ok (.ifCond .eq 11, 3) := by decide +kernel
theorem dX9_fades_8 : decode cX9_fades 8 = .ok (.aload_n 0, 1) := by decide +kernel
theorem dX9_fades_9 : decode cX9_fades 9 = .ok (.iload_n 2, 1) := by decide +kernel
theorem dX9_fades_10 : decode cX9_fades 10 = .ok (.invokevirtual 94, 3) := by decide +kernel
theorem dX9_fades_13 : decode cX9_fades 13 = .ok (.ifCond .ne 5, 3) := by decide +kernel
theorem dX9_fades_16 : decode cX9_fades 16 = .ok (.iconst (-1), 1) := by decide +kernel
theorem dX9_fades_17 : decode cX9_fades 17 = .ok (.ireturn, 1) := by decide +kernel
theorem dX9_fades_18 : decode cX9_fades 18 = .ok (.aload_n 0, 1) := by decide +kernel
theorem dX9_fades_19 : decode cX9_fades 19 = .ok (.iload_n 1, 1) := by decide +kernel
theorem dX9_fades_20 : decode cX9_fades 20 = .ok (.iload_n 2, 1) := by decide +kernel
theorem dX9_fades_21 : decode cX9_fades 21 = .ok (.invokevirtual 188, 3) := by decide +kernel
theorem dX9_fades_24 : decode cX9_fades 24 = .ok (.ifCond .ne 6, 3) := by decide +kernel
theorem dX9_fades_27 : decode cX9_fades 27 = .ok (.bipush (-2), 2) := by decide +kernel
theorem dX9_fades_29 : decode cX9_fades 29 = .ok (.ireturn, 1) := by decide +kernel
theorem dX9_fades_30 : decode cX9_fades 30 = .ok (.iconst 0, 1) := by decide +kernel
theorem dX9_fades_31 : decode cX9_fades 31 = .ok (.istore_n 3, 1) := by decide +kernel
theorem dX9_fades_32 : decode cX9_fades 32 = .ok (.iload_n 3, 1) := by decide +kernel
theorem dX9_fades_33 : decode cX9_fades 33 = .ok (.sipush 135, 3) := by decide +kernel
theorem dX9_fades_36 : decode cX9_fades 36 = .ok (.if_icmp .ge 21, 3) := by decide +kernel
theorem dX9_fades_39 : decode cX9_fades 39 = .ok (.aload_n 0, 1) := by decide +kernel
theorem dX9_fades_40 : decode cX9_fades 40 = .ok (.getfield 53, 3) := by decide +kernel
theorem dX9_fades_43 : decode cX9_fades 43 = .ok (.iload_n 3, 1) := by decide +kernel
theorem dX9_fades_44 : decode cX9_fades 44 = .ok (.aload_n 0, 1) := by decide +kernel
theorem dX9_fades_45 : decode cX9_fades 45 = .ok (.getfield 16, 3) := by decide +kernel
theorem dX9_fades_48 : decode cX9_fades 48 = .ok (.iload_n 3, 1) := by decide +kernel
theorem dX9_fades_49 : decode cX9_fades 49 = .ok (.iaload, 1) := by decide +kernel
theorem dX9_fades_50 : decode cX9_fades 50 = .ok (.iastore, 1) := by decide +kernel
theorem dX9_fades_51 : decode cX9_fades 51 = .ok (.iinc 3 1, 3) := by decide +kernel
theorem dX9_fades_54 : decode cX9_fades 54 = .ok (.goto (-22), 3) := by decide +kernel
theorem dX9_fades_57 : decode cX9_fades 57 = .ok (.bipush (-4), 2) := by decide +kernel
theorem dX9_fades_59 : decode cX9_fades 59 = .ok (.istore_n 3, 1) := by decide +kernel
theorem dX9_fades_60 : decode cX9_fades 60 = .ok (.iconst 1, 1) := by decide +kernel
theorem dX9_fades_61 : decode cX9_fades 61 = .ok (.istore 4, 2) := by decide +kernel
theorem dX9_fades_63 : decode cX9_fades 63 = .ok (.iload 4, 2) := by decide +kernel
theorem dX9_fades_65 : decode cX9_fades 65 = .ok (.bipush 30, 2) := by decide +kernel
theorem dX9_fades_67 : decode cX9_fades 67 = .ok (.if_icmp .gt 34, 3) := by decide +kernel
theorem dX9_fades_70 : decode cX9_fades 70 = .ok (.iload_n 3, 1) := by decide +kernel
theorem dX9_fades_71 : decode cX9_fades 71 = .ok (.ifCond .ge 30, 3) := by decide +kernel
theorem dX9_fades_74 : decode cX9_fades 74 = .ok (.aload_n 0, 1) := by decide +kernel
theorem dX9_fades_75 : decode cX9_fades 75 = .ok (.invokevirtual 130, 3) := by decide +kernel
theorem dX9_fades_78 : decode cX9_fades 78 = .ok (.aload_n 0, 1) := by decide +kernel
theorem dX9_fades_79 : decode cX9_fades 79 = .ok (.iload_n 1, 1) := by decide +kernel
theorem dX9_fades_80 : decode cX9_fades 80 = .ok (.iload_n 2, 1) := by decide +kernel
theorem dX9_fades_81 : decode cX9_fades 81 = .ok (.invokevirtual 188, 3) := by decide +kernel
theorem dX9_fades_84 : decode cX9_fades 84 = .ok (.ifCond .eq 8, 3) := by decide +kernel
theorem dX9_fades_87 : decode cX9_fades 87 = .ok (.bipush (-4), 2) := by decide +kernel
theorem dX9_fades_89 : decode cX9_fades 89 = .ok (.goto 5, 3) := by decide +kernel
theorem dX9_fades_92 : decode cX9_fades 92 = .ok (.iload 4, 2) := by decide +kernel
theorem dX9_fades_94 : decode cX9_fades 94 = .ok (.istore_n 3, 1) := by decide +kernel
theorem dX9_fades_95 : decode cX9_fades 95 = .ok (.iinc 4 1, 3) := by decide +kernel
theorem dX9_fades_98 : decode cX9_fades 98 = .ok (.goto (-35), 3) := by decide +kernel
theorem dX9_fades_101 : decode cX9_fades 101 = .ok (.iconst 0, 1) := by decide +kernel
theorem dX9_fades_102 : decode cX9_fades 102 = .ok (.istore 4, 2) := by decide +kernel
theorem dX9_fades_104 : decode cX9_fades 104 = .ok (.iload 4, 2) := by decide +kernel
theorem dX9_fades_106 : decode cX9_fades 106 = .ok (.sipush 135, 3) := by decide +kernel
theorem dX9_fades_109 : decode cX9_fades 109 = .ok (.if_icmp .ge 23, 3) := by decide +kernel
theorem dX9_fades_112 : decode cX9_fades 112 = .ok (.aload_n 0, 1) := by decide +kernel
theorem dX9_fades_113 : decode cX9_fades 113 = .ok (.getfield 16, 3) := by decide +kernel
theorem dX9_fades_116 : decode cX9_fades 116 = .ok (.iload 4, 2) := by decide +kernel
theorem dX9_fades_118 : decode cX9_fades 118 = .ok (.aload_n 0, 1) := by decide +kernel
theorem dX9_fades_119 : decode cX9_fades 119 = .ok (.getfield 53, 3) := by decide +kernel
theorem dX9_fades_122 : decode cX9_fades 122 = .ok (.iload 4, 2) := by decide +kernel
theorem dX9_fades_124 : decode cX9_fades 124 = .ok (.iaload, 1) := by decide +kernel
theorem dX9_fades_125 : decode cX9_fades 125 = .ok (.iastore, 1) := by decide +kernel
theorem dX9_fades_126 : decode cX9_fades 126 = .ok (.iinc 4 1, 3) := by decide +kernel
theorem dX9_fades_129 : decode cX9_fades 129 = .ok (.goto (-25), 3) := by decide +kernel
theorem dX9_fades_132 : decode cX9_fades 132 = .ok (.iload_n 3, 1) := by decide +kernel
theorem dX9_fades_133 : decode cX9_fades 133 = .ok (.ireturn, 1) := by decide +kernel
theorem dX9_areLike_0 : decode cX9_areLike 0 = .ok (.aload_n 0, 1) := by decide +kernel
theorem dX9_areLike_1 : decode cX9_areLike 1 = .ok (.iload_n 1, 1) := by decide +kernel
theorem dX9_areLike_2 : decode cX9_areLike 2 = .ok (.invokevirtual 179, 3) := by decide +kernel
theorem dX9_areLike_5 : decode cX9_areLike 5 = .ok (.aload_n 0, 1) := by decide +kernel
theorem dX9_areLike_6 : decode cX9_areLike 6 = .ok (.iload_n 2, 1) := by decide +kernel
theorem dX9_areLike_7 : decode cX9_areLike 7 = .ok (.invokevirtual 179, 3) := by decide +kernel
theorem dX9_areLike_10 : decode cX9_areLike 10 = .ok (.if_icmp .ne 7, 3) := by decide +kernel
theorem dX9_areLike_13 : decode cX9_areLike 13 = .ok (.iconst 1, 1) := by decide +kernel
theorem dX9_areLike_14 : decode cX9_areLike 14 = .ok (.goto 4, 3) := by decide +kernel
theorem dX9_areLike_17 : decode cX9_areLike 17 = .ok (.iconst 0, 1) := by decide +kernel
theorem dX9_areLike_18 : decode cX9_areLike 18 = .ok (.istore_n 3, 1) := by decide +kernel
theorem dX9_areLike_19 : decode cX9_areLike 19 = .ok (.iconst 0, 1) := by decide +kernel
theorem dX9_areLike_20 : decode cX9_areLike 20 = .ok (.istore 4, 2) := by decide +kernel
theorem dX9_areLike_22 : decode cX9_areLike 22 = .ok (.iload 4, 2) := by decide +kernel
theorem dX9_areLike_24 : decode cX9_areLike 24 = .ok (.aload_n 0, 1) := by decide +kernel
theorem dX9_areLike_25 : decode cX9_areLike 25 = .ok (.iload_n 1, 1) := by decide +kernel
theorem dX9_areLike_26 : decode cX9_areLike 26 = .ok (.invokevirtual 179, 3) := by decide +kernel
theorem dX9_areLike_29 : decode cX9_areLike 29 = .ok (.if_icmp .ge 36, 3) := by decide +kernel
theorem dX9_areLike_32 : decode cX9_areLike 32 = .ok (.iload_n 3, 1) := by decide +kernel
theorem dX9_areLike_33 : decode cX9_areLike 33 = .ok (.ifCond .eq 32, 3) := by decide +kernel
theorem dX9_areLike_36 : decode cX9_areLike 36 = .ok (.aload_n 0, 1) := by decide +kernel
theorem dX9_areLike_37 : decode cX9_areLike 37 = .ok (.iload_n 1, 1) := by decide +kernel
theorem dX9_areLike_38 : decode cX9_areLike 38 = .ok (.iload 4, 2) := by decide +kernel
theorem dX9_areLike_40 : decode cX9_areLike 40 = .ok (.invokevirtual 185, 3) := by decide +kernel
theorem dX9_areLike_43 : decode cX9_areLike 43 = .ok (.aload_n 0, 1) := by decide +kernel
theorem dX9_areLike_44 : decode cX9_areLike 44 = .ok (.iload_n 2, 1) := by decide +kernel
theorem dX9_areLike_45 : decode cX9_areLike 45 = .ok (.iload 4, 2) := by decide +kernel
theorem dX9_areLike_47 : decode cX9_areLike 47 = .ok (.invokevirtual 185, 3) := by decide +kernel
theorem dX9_areLike_50 : decode cX9_areLike 50 = .ok (.if_icmp .ne 7, 3) := by decide +kernel
theorem dX9_areLike_53 : decode cX9_areLike 53 = .ok (.iconst 1, 1) := by decide +kernel
theorem dX9_areLike_54 : decode cX9_areLike 54 = .ok (.goto 4, 3) := by decide +kernel
theorem dX9_areLike_57 : decode cX9_areLike 57 = .ok (.iconst 0, 1) := by decide +kernel
theorem dX9_areLike_58 : decode cX9_areLike 58 = .ok (.istore_n 3, 1) := by decide +kernel
theorem dX9_areLike_59 : decode cX9_areLike 59 = .ok (.iinc 4 1, 3) := by decide +kernel
theorem dX9_areLike_62 : decode cX9_areLike 62 = .ok (.goto (-40), 3) := by decide +kernel
theorem dX9_areLike_65 : decode cX9_areLike 65 = .ok (.iload_n 3, 1) := by decide +kernel
theorem dX9_areLike_66 : decode cX9_areLike 66 = .ok (.ireturn, 1) := by decide +kernel
theorem dX9_isIn_0 : decode cX9_isIn 0 = .ok (.iconst 0, 1) := by decide +kernel
theorem dX9_isIn_1 : decode cX9_isIn 1 = .ok (.istore 4, 2) := by decide +kernel
theorem dX9_isIn_3 : decode cX9_isIn 3 = .ok (.iconst 0, 1) := by decide +kernel
theorem dX9_isIn_4 : decode cX9_isIn 4 = .ok (.istore 5, 2) := by decide +kernel
theorem dX9_isIn_6 : decode cX9_isIn 6 = .ok (.iload 5, 2) := by decide +kernel
theorem dX9_isIn_8 : decode cX9_isIn 8 = .ok (.aload_n 0, 1) := by decide +kernel
theorem dX9_isIn_9 : decode cX9_isIn 9 = .ok (.iload_n 1, 1) := by decide +kernel
theorem dX9_isIn_10 : decode cX9_isIn 10 = .ok (.invokevirtual 179, 3) := by decide +kernel
theorem dX9_isIn_13 : decode cX9_isIn 13 = .ok (.if_icmp .ge 66, 3) := by decide +kernel
theorem dX9_isIn_16 : decode cX9_isIn 16 = .ok (.iload_n 2, 1) := by decide +kernel
theorem dX9_isIn_17 : decode cX9_isIn 17 = .ok (.iload 5, 2) := by decide +kernel
theorem dX9_isIn_19 : decode cX9_isIn 19 = .ok (.invokestatic 117, 3) := by decide +kernel
theorem dX9_isIn_22 : decode cX9_isIn 22 = .ok (.ifCond .eq 51, 3) := by decide +kernel
theorem dX9_isIn_25 : decode cX9_isIn 25 = .ok (.iload 4, 2) := by decide +kernel
theorem dX9_isIn_27 : decode cX9_isIn 27 = .ok (.aload_n 0, 1) := by decide +kernel
theorem dX9_isIn_28 : decode cX9_isIn 28 = .ok (.iload_n 3, 1) := by decide +kernel
theorem dX9_isIn_29 : decode cX9_isIn 29 = .ok (.invokevirtual 179, 3) := by decide +kernel
theorem dX9_isIn_32 : decode cX9_isIn 32 = .ok (.if_icmp .ge 26, 3) := by decide +kernel
theorem dX9_isIn_35 : decode cX9_isIn 35 = .ok (.aload_n 0, 1) := by decide +kernel
theorem dX9_isIn_36 : decode cX9_isIn 36 = .ok (.iload_n 3, 1) := by decide +kernel
theorem dX9_isIn_37 : decode cX9_isIn 37 = .ok (.iload 4, 2) := by decide +kernel
theorem dX9_isIn_39 : decode cX9_isIn 39 = .ok (.invokevirtual 185, 3) := by decide +kernel
theorem dX9_isIn_42 : decode cX9_isIn 42 = .ok (.aload_n 0, 1) := by decide +kernel
theorem dX9_isIn_43 : decode cX9_isIn 43 = .ok (.iload_n 1, 1) := by decide +kernel
theorem dX9_isIn_44 : decode cX9_isIn 44 = .ok (.iload 5, 2) := by decide +kernel
theorem dX9_isIn_46 : decode cX9_isIn 46 = .ok (.invokevirtual 185, 3) := by decide +kernel
theorem dX9_isIn_49 : decode cX9_isIn 49 = .ok (.if_icmp .eq 9, 3) := by decide +kernel
theorem dX9_isIn_52 : decode cX9_isIn 52 = .ok (.iinc 4 1, 3) := by decide +kernel
theorem dX9_isIn_55 : decode cX9_isIn 55 = .ok (.goto (-30), 3) := by decide +kernel
theorem dX9_isIn_58 : decode cX9_isIn 58 = .ok (.iload 4, 2) := by decide +kernel
theorem dX9_isIn_60 : decode cX9_isIn 60 = .ok (.aload_n 0, 1) := by decide +kernel
theorem dX9_isIn_61 : decode cX9_isIn 61 = .ok (.iload_n 3, 1) := by decide +kernel
theorem dX9_isIn_62 : decode cX9_isIn 62 = .ok (.invokevirtual 179, 3) := by decide +kernel
theorem dX9_isIn_65 : decode cX9_isIn 65 = .ok (.if_icmp .ne 5, 3) := by decide +kernel
theorem dX9_isIn_68 : decode cX9_isIn 68 = .ok (.iconst 0, 1) := by decide +kernel
theorem dX9_isIn_69 : decode cX9_isIn 69 = .ok (.ireturn, 1) := by decide +kernel
theorem dX9_isIn_70 : decode cX9_isIn 70 = .ok (.iinc 4 1, 3) := by decide +kernel
theorem dX9_isIn_73 : decode cX9_isIn 73 = .ok (.iinc 5 1, 3) := by decide +kernel
theorem dX9_isIn_76 : decode cX9_isIn 76 = .ok (.goto (-70), 3) := by decide +kernel
theorem dX9_isIn_79 : decode cX9_isIn 79 = .ok (.iconst 1, 1) := by decide +kernel
theorem dX9_isIn_80 : decode cX9_isIn 80 = .ok (.ireturn, 1) := by decide +kernel
theorem dX9_brief_0 : decode cX9_brief 0 = .ok (.aload_n 0, 1) := by decide +kernel
theorem dX9_brief_1 : decode cX9_brief 1 = .ok (.iload_n 1, 1) := by decide +kernel
theorem dX9_brief_2 : decode cX9_brief 2 = .ok (.invokevirtual 174, 3) := by decide +kernel
theorem dX9_brief_5 : decode cX9_brief 5 = .ok (.ifCond .ne 5, 3) := by decide +kernel
theorem dX9_brief_8 : decode cX9_brief 8 = .ok (.iconst (-1), 1) := by decide +kernel
theorem dX9_brief_9 : decode cX9_brief 9 = .ok (.ireturn, 1) := by decide +kernel
theorem dX9_brief_10 : decode cX9_brief 10 = .ok (.bipush (-4), 2) := by decide +kernel
theorem dX9_brief_12 : decode cX9_brief 12 = .ok (.istore_n 2, 1) := by decide +kernel
theorem dX9_brief_13 : decode cX9_brief 13 = .ok (.iconst 1, 1) := by decide +kernel
theorem dX9_brief_14 : decode cX9_brief 14 = .ok (.istore_n 3, 1) := by decide +kernel
theorem dX9_brief_15 : decode cX9_brief 15 = .ok (.iload_n 3, 1) := by decide +kernel
theorem dX9_brief_16 : decode cX9_brief 16 = .ok (.iconst 1, 1) := by decide +kernel
theorem dX9_brief_17 : decode cX9_brief 17 = .ok (.aload_n 0, 1) := by decide +kernel
theorem dX9_brief_18 : decode cX9_brief 18 = .ok (.iload_n 1, 1) := by decide +kernel
theorem dX9_brief_19 : decode cX9_brief 19 = .ok (.invokevirtual 179, 3) := by decide +kernel
theorem dX9_brief_22 : decode cX9_brief 22 = .ok (.ishl, 1) := by decide +kernel
theorem dX9_brief_23 : decode cX9_brief 23 = .ok (.if_icmp .ge 89, 3) := by decide +kernel
theorem dX9_brief_26 : decode cX9_brief 26 = .ok (.iconst 1, 1) := by decide +kernel
theorem dX9_brief_27 : decode cX9_brief 27 = .ok (.istore 4, 2) := by decide +kernel
theorem dX9_brief_29 : decode cX9_brief 29 = .ok (.iconst 0, 1) := by decide +kernel
theorem dX9_brief_30 : decode cX9_brief 30 = .ok (.istore 5, 2) := by decide +kernel
theorem dX9_brief_32 : decode cX9_brief 32 = .ok (.iload 5, 2) := by decide +kernel
theorem dX9_brief_34 : decode cX9_brief 34 = .ok (.aload_n 0, 1) := by decide +kernel
theorem dX9_brief_35 : decode cX9_brief 35 = .ok (.getfield 83, 3) := by decide +kernel
theorem dX9_brief_38 : decode cX9_brief 38 = .ok (.if_icmp .ge 42, 3) := by decide +kernel
theorem dX9_brief_41 : decode cX9_brief 41 = .ok (.iload 4, 2) := by decide +kernel
theorem dX9_brief_43 : decode cX9_brief 43 = .ok (.ifCond .eq 28, 3) := by decide +kernel
theorem dX9_brief_46 : decode cX9_brief 46 = .ok (.aload_n 0, 1) := by decide +kernel
theorem dX9_brief_47 : decode cX9_brief 47 = .ok (.iload_n 1, 1) := by decide +kernel
theorem dX9_brief_48 : decode cX9_brief 48 = .ok (.iload 5, 2) := by decide +kernel
theorem dX9_brief_50 : decode cX9_brief 50 = .ok (.invokevirtual 224, 3) := by decide +kernel
theorem dX9_brief_53 : decode cX9_brief 53 = .ok (.ifCond .ne 14, 3) := by decide +kernel
theorem dX9_brief_56 : decode cX9_brief 56 = .ok (.aload_n 0, 1) := by decide +kernel
theorem dX9_brief_57 : decode cX9_brief 57 = .ok (.iload_n 1, 1) := by decide +kernel
theorem dX9_brief_58 : decode cX9_brief 58 = .ok (.iload_n 3, 1) := by decide +kernel
theorem dX9_brief_59 : decode cX9_brief 59 = .ok (.iload 5, 2) := by decide +kernel
theorem dX9_brief_61 : decode cX9_brief 61 = .ok (.invokevirtual 227, 3) := by decide +kernel
theorem dX9_brief_64 : decode cX9_brief 64 = .ok (.ifCond .ne 7, 3) := by decide +kernel
theorem dX9_brief_67 : decode cX9_brief 67 = .ok (.iconst 1, 1) := by decide +kernel
theorem dX9_brief_68 : decode cX9_brief 68 = .ok (.goto 4, 3) := by decide +kernel
theorem dX9_brief_71 : decode cX9_brief 71 = .ok (.iconst 0, 1) := by decide +kernel
theorem dX9_brief_72 : decode cX9_brief 72 = .ok (.istore 4, 2) := by decide +kernel
theorem dX9_brief_74 : decode cX9_brief 74 = .ok (.iinc 5 1, 3) := by decide +kernel
theorem dX9_brief_77 : decode cX9_brief 77 = .ok (.goto (-45), 3) := by decide +kernel
theorem dX9_brief_80 : decode cX9_brief 80 = .ok (.iload 4, 2) := by decide +kernel
theorem dX9_brief_82 : decode cX9_brief 82 = .ok (.ifCond .eq 22, 3) := by decide +kernel
theorem dX9_brief_85 : decode cX9_brief 85 = .ok (.iload_n 2, 1) := by decide +kernel
theorem dX9_brief_86 : decode cX9_brief 86 = .ok (.ifCond .lt 14, 3) := by decide +kernel
theorem dX9_brief_89 : decode cX9_brief 89 = .ok (.iload_n 3, 1) := by decide +kernel
theorem dX9_brief_90 : decode cX9_brief 90 = .ok (.invokestatic 108, 3) := by decide +kernel
theorem dX9_brief_93 : decode cX9_brief 93 = .ok (.iload_n 2, 1) := by decide +kernel
theorem dX9_brief_94 : decode cX9_brief 94 = .ok (.invokestatic 108, 3) := by decide +kernel
theorem dX9_brief_97 : decode cX9_brief 97 = .ok (.if_icmp .ge 7, 3) := by decide +kernel
theorem dX9_brief_100 : decode cX9_brief 100 = .ok (.iload_n 3, 1) := by decide +kernel
theorem dX9_brief_101 : decode cX9_brief 101 = .ok (.goto 4, 3) := by decide +kernel
theorem dX9_brief_104 : decode cX9_brief 104 = .ok (.iload_n 2, 1) := by decide +kernel
theorem dX9_brief_105 : decode cX9_brief 105 = .ok (.istore_n 2, 1) := by decide +kernel
theorem dX9_brief_106 : decode cX9_brief 106 = .ok (.iinc 3 1, 3) := by decide +kernel
theorem dX9_brief_109 : decode cX9_brief 109 = .ok (.goto (-94), 3) := by decide +kernel
theorem dX9_brief_112 : decode cX9_brief 112 = .ok (.iload_n 2, 1) := by decide +kernel
theorem dX9_brief_113 : decode cX9_brief 113 = .ok (.ireturn, 1) := by decide +kernel
theorem dX9_carried_0 : decode cX9_carried 0 = .ok (.iload_n 1, 1) := by decide +kernel
theorem dX9_carried_1 : decode cX9_carried 1 = .ok (.istore 4, 2) := by decide +kernel
theorem dX9_carried_3 : decode cX9_carried 3 = .ok (.iload 4, 2) := by decide +kernel
theorem dX9_carried_5 : decode cX9_carried 5 = .ok (.bipush 9, 2) := by decide +kernel
theorem dX9_carried_7 : decode cX9_carried 7 = .ok (.if_icmp .ge 33, 3) := by decide +kernel
theorem dX9_carried_10 : decode cX9_carried 10 = .ok (.aload_n 0, 1) := by decide +kernel
theorem dX9_carried_11 : decode cX9_carried 11 = .ok (.getfield 13, 3) := by decide +kernel
theorem dX9_carried_14 : decode cX9_carried 14 = .ok (.iload 4, 2) := by decide +kernel
theorem dX9_carried_16 : decode cX9_carried 16 = .ok (.iload_n 3, 1) := by decide +kernel
theorem dX9_carried_17 : decode cX9_carried 17 = .ok (.ifCond .eq 7, 3) := by decide +kernel
theorem dX9_carried_20 : decode cX9_carried 20 = .ok (.iload_n 2, 1) := by decide +kernel
theorem dX9_carried_21 : decode cX9_carried 21 = .ok (.goto 10, 3) := by decide +kernel
theorem dX9_carried_24 : decode cX9_carried 24 = .ok (.aload_n 0, 1) := by decide +kernel
theorem dX9_carried_25 : decode cX9_carried 25 = .ok (.getfield 13, 3) := by decide +kernel
theorem dX9_carried_28 : decode cX9_carried 28 = .ok (.iload 4, 2) := by decide +kernel
theorem dX9_carried_30 : decode cX9_carried 30 = .ok (.iaload, 1) := by decide +kernel
theorem dX9_carried_31 : decode cX9_carried 31 = .ok (.iastore, 1) := by decide +kernel
theorem dX9_carried_32 : decode cX9_carried 32 = .ok (.aload_n 0, 1) := by decide +kernel
theorem dX9_carried_33 : decode cX9_carried 33 = .ok (.getfield 13, 3) := by decide +kernel
theorem dX9_carried_36 : decode cX9_carried 36 = .ok (.iload 4, 2) := by decide +kernel
theorem dX9_carried_38 : decode cX9_carried 38 = .ok (.iaload, 1) := by decide +kernel
theorem dX9_carried_39 : decode cX9_carried 39 = .ok (.ireturn, 1) := by decide +kernel
theorem dX9_carried_40 : decode cX9_carried 40 = .ok (.iinc 4 (-9), 3) := by decide +kernel
theorem dX9_carried_43 : decode cX9_carried 43 = .ok (.iload 4, 2) := by decide +kernel
theorem dX9_carried_45 : decode cX9_carried 45 = .ok (.sipush 135, 3) := by decide +kernel
theorem dX9_carried_48 : decode cX9_carried 48 = .ok (.if_icmp .ge 33, 3) := by decide +kernel
theorem dX9_carried_51 : decode cX9_carried 51 = .ok (.aload_n 0, 1) := by decide +kernel
theorem dX9_carried_52 : decode cX9_carried 52 = .ok (.getfield 16, 3) := by decide +kernel
theorem dX9_carried_55 : decode cX9_carried 55 = .ok (.iload 4, 2) := by decide +kernel
theorem dX9_carried_57 : decode cX9_carried 57 = .ok (.iload_n 3, 1) := by decide +kernel
theorem dX9_carried_58 : decode cX9_carried 58 = .ok (.ifCond .eq 7, 3) := by decide +kernel
theorem dX9_carried_61 : decode cX9_carried 61 = .ok (.iload_n 2, 1) := by decide +kernel
theorem dX9_carried_62 : decode cX9_carried 62 = .ok (.goto 10, 3) := by decide +kernel
theorem dX9_carried_65 : decode cX9_carried 65 = .ok (.aload_n 0, 1) := by decide +kernel
theorem dX9_carried_66 : decode cX9_carried 66 = .ok (.getfield 16, 3) := by decide +kernel
theorem dX9_carried_69 : decode cX9_carried 69 = .ok (.iload 4, 2) := by decide +kernel
theorem dX9_carried_71 : decode cX9_carried 71 = .ok (.iaload, 1) := by decide +kernel
theorem dX9_carried_72 : decode cX9_carried 72 = .ok (.iastore, 1) := by decide +kernel
theorem dX9_carried_73 : decode cX9_carried 73 = .ok (.aload_n 0, 1) := by decide +kernel
theorem dX9_carried_74 : decode cX9_carried 74 = .ok (.getfield 16, 3) := by decide +kernel
theorem dX9_carried_77 : decode cX9_carried 77 = .ok (.iload 4, 2) := by decide +kernel
theorem dX9_carried_79 : decode cX9_carried 79 = .ok (.iaload, 1) := by decide +kernel
theorem dX9_carried_80 : decode cX9_carried 80 = .ok (.ireturn, 1) := by decide +kernel
theorem dX9_carried_81 : decode cX9_carried 81 = .ok (.iinc 4 (-135), 6) := by decide +kernel
theorem dX9_carried_87 : decode cX9_carried 87 = .ok (.iload 4, 2) := by decide +kernel
theorem dX9_carried_89 : decode cX9_carried 89 = .ok (.bipush 6, 2) := by decide +kernel
theorem dX9_carried_91 : decode cX9_carried 91 = .ok (.if_icmp .ge 33, 3) := by decide +kernel
theorem dX9_carried_94 : decode cX9_carried 94 = .ok (.aload_n 0, 1) := by decide +kernel
theorem dX9_carried_95 : decode cX9_carried 95 = .ok (.getfield 19, 3) := by decide +kernel
theorem dX9_carried_98 : decode cX9_carried 98 = .ok (.iload 4, 2) := by decide +kernel
theorem dX9_carried_100 : decode cX9_carried 100 = .ok (.iload_n 3, 1) := by decide +kernel
theorem dX9_carried_101 : decode cX9_carried 101 = .ok (.ifCond .eq 7, 3) := by decide +kernel
theorem dX9_carried_104 : decode cX9_carried 104 = .ok (.iload_n 2, 1) := by decide +kernel
theorem dX9_carried_105 : decode cX9_carried 105 = .ok (.goto 10, 3) := by decide +kernel
theorem dX9_carried_108 : decode cX9_carried 108 = .ok (.aload_n 0, 1) := by decide +kernel
theorem dX9_carried_109 : decode cX9_carried 109 = .ok (.getfield 19, 3) := by decide +kernel
theorem dX9_carried_112 : decode cX9_carried 112 = .ok (.iload 4, 2) := by decide +kernel
theorem dX9_carried_114 : decode cX9_carried 114 = .ok (.iaload, 1) := by decide +kernel
theorem dX9_carried_115 : decode cX9_carried 115 = .ok (.iastore, 1) := by decide +kernel
theorem dX9_carried_116 : decode cX9_carried 116 = .ok (.aload_n 0, 1) := by decide +kernel
theorem dX9_carried_117 : decode cX9_carried 117 = .ok (.getfield 19, 3) := by decide +kernel
theorem dX9_carried_120 : decode cX9_carried 120 = .ok (.iload 4, 2) := by decide +kernel
theorem dX9_carried_122 : decode cX9_carried 122 = .ok (.iaload, 1) := by decide +kernel
theorem dX9_carried_123 : decode cX9_carried 123 = .ok (.ireturn, 1) := by decide +kernel
theorem dX9_carried_124 : decode cX9_carried 124 = .ok (.iinc 4 (-6), 3) := by decide +kernel
theorem dX9_carried_127 : decode cX9_carried 127 = .ok (.iload 4, 2) := by decide +kernel
theorem dX9_carried_129 : decode cX9_carried 129 = .ok (.iconst 4, 1) := by decide +kernel
theorem dX9_carried_130 : decode cX9_carried 130 = .ok (.if_icmp .ge 33, 3) := by decide +kernel
theorem dX9_carried_133 : decode cX9_carried 133 = .ok (.aload_n 0, 1) := by decide +kernel
theorem dX9_carried_134 : decode cX9_carried 134 = .ok (.getfield 22, 3) := by decide +kernel
theorem dX9_carried_137 : decode cX9_carried 137 = .ok (.iload 4, 2) := by decide +kernel
theorem dX9_carried_139 : decode cX9_carried 139 = .ok (.iload_n 3, 1) := by decide +kernel
theorem dX9_carried_140 : decode cX9_carried 140 = .ok (.ifCond .eq 7, 3) := by decide +kernel
theorem dX9_carried_143 : decode cX9_carried 143 = .ok (.iload_n 2, 1) := by decide +kernel
theorem dX9_carried_144 : decode cX9_carried 144 = .ok (.goto 10, 3) := by decide +kernel
theorem dX9_carried_147 : decode cX9_carried 147 = .ok (.aload_n 0, 1) := by decide +kernel
theorem dX9_carried_148 : decode cX9_carried 148 = .ok (.getfield 22, 3) := by decide +kernel
theorem dX9_carried_151 : decode cX9_carried 151 = .ok (.iload 4, 2) := by decide +kernel
theorem dX9_carried_153 : decode cX9_carried 153 = .ok (.iaload, 1) := by decide +kernel
theorem dX9_carried_154 : decode cX9_carried 154 = .ok (.iastore, 1) := by decide +kernel
theorem dX9_carried_155 : decode cX9_carried 155 = .ok (.aload_n 0, 1) := by decide +kernel
theorem dX9_carried_156 : decode cX9_carried 156 = .ok (.getfield 22, 3) := by decide +kernel
theorem dX9_carried_159 : decode cX9_carried 159 = .ok (.iload 4, 2) := by decide +kernel
theorem dX9_carried_161 : decode cX9_carried 161 = .ok (.iaload, 1) := by decide +kernel
theorem dX9_carried_162 : decode cX9_carried 162 = .ok (.ireturn, 1) := by decide +kernel
theorem dX9_carried_163 : decode cX9_carried 163 = .ok (.iinc 4 (-4), 3) := by decide +kernel
theorem dX9_carried_166 : decode cX9_carried 166 = .ok (.iload 4, 2) := by decide +kernel
theorem dX9_carried_168 : decode cX9_carried 168 = .ok (.bipush 36, 2) := by decide +kernel
theorem dX9_carried_170 : decode cX9_carried 170 = .ok (.if_icmp .ge 33, 3) := by decide +kernel
theorem dX9_carried_173 : decode cX9_carried 173 = .ok (.aload_n 0, 1) := by decide +kernel
theorem dX9_carried_174 : decode cX9_carried 174 = .ok (.getfield 25, 3) := by decide +kernel
theorem dX9_carried_177 : decode cX9_carried 177 = .ok (.iload 4, 2) := by decide +kernel
theorem dX9_carried_179 : decode cX9_carried 179 = .ok (.iload_n 3, 1) := by decide +kernel
theorem dX9_carried_180 : decode cX9_carried 180 = .ok (.ifCond .eq 7, 3) := by decide +kernel
theorem dX9_carried_183 : decode cX9_carried 183 = .ok (.iload_n 2, 1) := by decide +kernel
theorem dX9_carried_184 : decode cX9_carried 184 = .ok (.goto 10, 3) := by decide +kernel
theorem dX9_carried_187 : decode cX9_carried 187 = .ok (.aload_n 0, 1) := by decide +kernel
theorem dX9_carried_188 : decode cX9_carried 188 = .ok (.getfield 25, 3) := by decide +kernel
theorem dX9_carried_191 : decode cX9_carried 191 = .ok (.iload 4, 2) := by decide +kernel
theorem dX9_carried_193 : decode cX9_carried 193 = .ok (.iaload, 1) := by decide +kernel
theorem dX9_carried_194 : decode cX9_carried 194 = .ok (.iastore, 1) := by decide +kernel
theorem dX9_carried_195 : decode cX9_carried 195 = .ok (.aload_n 0, 1) := by decide +kernel
theorem dX9_carried_196 : decode cX9_carried 196 = .ok (.getfield 25, 3) := by decide +kernel
theorem dX9_carried_199 : decode cX9_carried 199 = .ok (.iload 4, 2) := by decide +kernel
theorem dX9_carried_201 : decode cX9_carried 201 = .ok (.iaload, 1) := by decide +kernel
theorem dX9_carried_202 : decode cX9_carried 202 = .ok (.ireturn, 1) := by decide +kernel
theorem dX9_carried_203 : decode cX9_carried 203 = .ok (.iinc 4 (-36), 3) := by decide +kernel
theorem dX9_carried_206 : decode cX9_carried 206 = .ok (.aload_n 0, 1) := by decide +kernel
theorem dX9_carried_207 : decode cX9_carried 207 = .ok (.getfield 28, 3) := by decide +kernel
theorem dX9_carried_210 : decode cX9_carried 210 = .ok (.iload 4, 2) := by decide +kernel
theorem dX9_carried_212 : decode cX9_carried 212 = .ok (.iload_n 3, 1) := by decide +kernel
theorem dX9_carried_213 : decode cX9_carried 213 = .ok (.ifCond .eq 7, 3) := by decide +kernel
theorem dX9_carried_216 : decode cX9_carried 216 = .ok (.iload_n 2, 1) := by decide +kernel
theorem dX9_carried_217 : decode cX9_carried 217 = .ok (.goto 10, 3) := by decide +kernel
theorem dX9_carried_220 : decode cX9_carried 220 = .ok (.aload_n 0, 1) := by decide +kernel
theorem dX9_carried_221 : decode cX9_carried 221 = .ok (.getfield 28, 3) := by decide +kernel
theorem dX9_carried_224 : decode cX9_carried 224 = .ok (.iload 4, 2) := by decide +kernel
theorem dX9_carried_226 : decode cX9_carried 226 = .ok (.iaload, 1) := by decide +kernel
theorem dX9_carried_227 : decode cX9_carried 227 = .ok (.iastore, 1) := by decide +kernel
theorem dX9_carried_228 : decode cX9_carried 228 = .ok (.aload_n 0, 1) := by decide +kernel
theorem dX9_carried_229 : decode cX9_carried 229 = .ok (.getfield 28, 3) := by decide +kernel
theorem dX9_carried_232 : decode cX9_carried 232 = .ok (.iload 4, 2) := by decide +kernel
theorem dX9_carried_234 : decode cX9_carried 234 = .ok (.iaload, 1) := by decide +kernel
theorem dX9_carried_235 : decode cX9_carried 235 = .ok (.ireturn, 1) := by decide +kernel
theorem dX9_image_0 : decode cX9_image 0 = .ok (.iconst 0, 1) := by decide +kernel
theorem dX9_image_1 : decode cX9_image 1 = .ok (.istore_n 1, 1) := by decide +kernel
theorem dX9_image_2 : decode cX9_image 2 = .ok (.iload_n 1, 1) := by decide +kernel
theorem dX9_image_3 : decode cX9_image 3 = .ok (.sipush 270, 3) := by decide +kernel
theorem dX9_image_6 : decode cX9_image 6 = .ok (.if_icmp .ge 22, 3) := by decide +kernel
theorem dX9_image_9 : decode cX9_image 9 = .ok (.aload_n 0, 1) := by decide +kernel
theorem dX9_image_10 : decode cX9_image 10 = .ok (.getfield 56, 3) := by decide +kernel
theorem dX9_image_13 : decode cX9_image 13 = .ok (.iload_n 1, 1) := by decide +kernel
theorem dX9_image_14 : decode cX9_image 14 = .ok (.aload_n 0, 1) := by decide +kernel
theorem dX9_image_15 : decode cX9_image 15 = .ok (.iload_n 1, 1) := by decide +kernel
theorem dX9_image_16 : decode cX9_image 16 = .ok (.iconst 0, 1) := by decide +kernel
theorem dX9_image_17 : decode cX9_image 17 = .ok (.iconst 0, 1) := by decide +kernel
theorem dX9_image_18 : decode cX9_image 18 = .ok (.invokevirtual 231, 3) := by decide +kernel
theorem dX9_image_21 : decode cX9_image 21 = .ok (.iastore, 1) := by decide +kernel
theorem dX9_image_22 : decode cX9_image 22 = .ok (.iinc 1 1, 3) := by decide +kernel
theorem dX9_image_25 : decode cX9_image 25 = .ok (.goto (-23), 3) := by decide +kernel
theorem dX9_image_28 : decode cX9_image 28 = .ok (.aload_n 0, 1) := by decide +kernel
theorem dX9_image_29 : decode cX9_image 29 = .ok (.getfield 59, 3) := by decide +kernel
theorem dX9_image_32 : decode cX9_image 32 = .ok (.iconst 0, 1) := by decide +kernel
theorem dX9_image_33 : decode cX9_image 33 = .ok (.aload_n 0, 1) := by decide +kernel
theorem dX9_image_34 : decode cX9_image 34 = .ok (.getfield 71, 3) := by decide +kernel
theorem dX9_image_37 : decode cX9_image 37 = .ok (.iastore, 1) := by decide +kernel
theorem dX9_image_38 : decode cX9_image 38 = .ok (.aload_n 0, 1) := by decide +kernel
theorem dX9_image_39 : decode cX9_image 39 = .ok (.getfield 59, 3) := by decide +kernel
theorem dX9_image_42 : decode cX9_image 42 = .ok (.iconst 1, 1) := by decide +kernel
theorem dX9_image_43 : decode cX9_image 43 = .ok (.aload_n 0, 1) := by decide +kernel
theorem dX9_image_44 : decode cX9_image 44 = .ok (.getfield 83, 3) := by decide +kernel
theorem dX9_image_47 : decode cX9_image 47 = .ok (.iastore, 1) := by decide +kernel
theorem dX9_image_48 : decode cX9_image 48 = .ok (.aload_n 0, 1) := by decide +kernel
theorem dX9_image_49 : decode cX9_image 49 = .ok (.iconst 1, 1) := by decide +kernel
theorem dX9_image_50 : decode cX9_image 50 = .ok (.putfield 235, 3) := by decide +kernel
theorem dX9_image_53 : decode cX9_image 53 = .ok (.iconst 1, 1) := by decide +kernel
theorem dX9_image_54 : decode cX9_image 54 = .ok (.ireturn, 1) := by decide +kernel
theorem dX9_restore_0 : decode cX9_restore 0 = .ok (.aload_n 0, 1) := by decide +kernel
theorem dX9_restore_1 : decode cX9_restore 1 = .ok (.getfield 235, 3) := by decide +kernel
theorem dX9_restore_4 : decode cX9_restore 4 = .ok (.ifCond .ne 6, 3) := by decide +kernel
theorem dX9_restore_7 : decode cX9_restore 7 = .ok (.bipush (-4), 2) := by decide +kernel
theorem dX9_restore_9 : decode cX9_restore 9 = .ok (.ireturn, 1) := by decide +kernel
theorem dX9_restore_10 : decode cX9_restore 10 = .ok (.iconst 0, 1) := by decide +kernel
theorem dX9_restore_11 : decode cX9_restore 11 = .ok (.istore_n 1, 1) := by decide +kernel
theorem dX9_restore_12 : decode cX9_restore 12 = .ok (.iload_n 1, 1) := by decide +kernel
theorem dX9_restore_13 : decode cX9_restore 13 = .ok (.sipush 270, 3) := by decide +kernel
theorem dX9_restore_16 : decode cX9_restore 16 = .ok (.if_icmp .ge 22, 3) := by decide +kernel
theorem dX9_restore_19 : decode cX9_restore 19 = .ok (.aload_n 0, 1) := by decide +kernel
theorem dX9_restore_20 : decode cX9_restore 20 = .ok (.iload_n 1, 1) := by decide +kernel
theorem dX9_restore_21 : decode cX9_restore 21 = .ok (.aload_n 0, 1) := by decide +kernel
theorem dX9_restore_22 : decode cX9_restore 22 = .ok (.getfield 56, 3) := by decide +kernel
theorem dX9_restore_25 : decode cX9_restore 25 = .ok (.iload_n 1, 1) := by decide +kernel
theorem dX9_restore_26 : decode cX9_restore 26 = .ok (.iaload, 1) := by decide +kernel
theorem dX9_restore_27 : decode cX9_restore 27 = .ok (.iconst 1, 1) := by decide +kernel
theorem dX9_restore_28 : decode cX9_restore 28 = .ok (.invokevirtual 231, 3) := by decide +kernel
theorem dX9_restore_31 : decode cX9_restore 31 = .ok (.pop, 1) := by decide +kernel
theorem dX9_restore_32 : decode cX9_restore 32 = .ok (.iinc 1 1, 3) := by decide +kernel
theorem dX9_restore_35 : decode cX9_restore 35 = .ok (.goto (-23), 3) := by decide +kernel
theorem dX9_restore_38 : decode cX9_restore 38 = .ok (.aload_n 0, 1) := by decide +kernel
theorem dX9_restore_39 : decode cX9_restore 39 = .ok (.aload_n 0, 1) := by decide +kernel
theorem dX9_restore_40 : decode cX9_restore 40 = .ok (.getfield 59, 3) := by decide +kernel
theorem dX9_restore_43 : decode cX9_restore 43 = .ok (.iconst 0, 1) := by decide +kernel
theorem dX9_restore_44 : decode cX9_restore 44 = .ok (.iaload, 1) := by decide +kernel
theorem dX9_restore_45 : decode cX9_restore 45 = .ok (.putfield 71, 3) := by decide +kernel
theorem dX9_restore_48 : decode cX9_restore 48 = .ok (.aload_n 0, 1) := by decide +kernel
theorem dX9_restore_49 : decode cX9_restore 49 = .ok (.aload_n 0, 1) := by decide +kernel
theorem dX9_restore_50 : decode cX9_restore 50 = .ok (.getfield 59, 3) := by decide +kernel
theorem dX9_restore_53 : decode cX9_restore 53 = .ok (.iconst 1, 1) := by decide +kernel
theorem dX9_restore_54 : decode cX9_restore 54 = .ok (.iaload, 1) := by decide +kernel
theorem dX9_restore_55 : decode cX9_restore 55 = .ok (.putfield 83, 3) := by decide +kernel
theorem dX9_restore_58 : decode cX9_restore 58 = .ok (.iconst 1, 1) := by decide +kernel
theorem dX9_restore_59 : decode cX9_restore 59 = .ok (.ireturn, 1) := by decide +kernel
theorem dX9_isSheet_0 : decode cX9_isSheet 0 = .ok (.iload_n 0, 1) := by decide +kernel
theorem dX9_isSheet_1 : decode cX9_isSheet 1 = .ok (.i2l, 1) := by decide +kernel
theorem dX9_isSheet_2 : decode cX9_isSheet 2 = .ok (.lconst 0, 1) := by decide +kernel
theorem dX9_isSheet_3 : decode cX9_isSheet 3 = .ok (.ldc2_w 92, 3) := by decide +kernel
theorem dX9_isSheet_6 : decode cX9_isSheet 6 = .ok (.invokestatic 75, 3) := by decide +kernel
theorem dX9_isSheet_9 : decode cX9_isSheet 9 = .ok (.ifCond .eq 19, 3) := by decide +kernel
theorem dX9_isSheet_12 : decode cX9_isSheet 12 = .ok (.iload_n 1, 1) := by decide +kernel
theorem dX9_isSheet_13 : decode cX9_isSheet 13 = .ok (.i2l, 1) := by decide +kernel
theorem dX9_isSheet_14 : decode cX9_isSheet 14 = .ok (.lconst 0, 1) := by decide +kernel
theorem dX9_isSheet_15 : decode cX9_isSheet 15 = .ok (.ldc2_w 239, 3) := by decide +kernel
theorem dX9_isSheet_18 : decode cX9_isSheet 18 = .ok (.invokestatic 75, 3) := by decide +kernel
theorem dX9_isSheet_21 : decode cX9_isSheet 21 = .ok (.ifCond .eq 7, 3) := by decide +kernel
theorem dX9_isSheet_24 : decode cX9_isSheet 24 = .ok (.iconst 1, 1) := by decide +kernel
theorem dX9_isSheet_25 : decode cX9_isSheet 25 = .ok (.goto 4, 3) := by decide +kernel
theorem dX9_isSheet_28 : decode cX9_isSheet 28 = .ok (.iconst 0, 1) := by decide +kernel
theorem dX9_isSheet_29 : decode cX9_isSheet 29 = .ok (.ireturn, 1) := by decide +kernel
theorem dX9_sheet_0 : decode cX9_sheet 0 = .ok (.iload_n 1, 1) := by decide +kernel
theorem dX9_sheet_1 : decode cX9_sheet 1 = .ok (.iload_n 2, 1) := by decide +kernel
theorem dX9_sheet_2 : decode cX9_sheet 2 = .ok (.invokestatic 241, 3) := by decide +kernel
theorem dX9_sheet_5 : decode cX9_sheet 5 = .ok (.ifCond .eq 9, 3) := by decide +kernel
theorem dX9_sheet_8 : decode cX9_sheet 8 = .ok (.iload_n 3, 1) := by decide +kernel
theorem dX9_sheet_9 : decode cX9_sheet 9 = .ok (.bipush 24, 2) := by decide +kernel
theorem dX9_sheet_11 : decode cX9_sheet 11 = .ok (.if_icmp .le 5, 3) := by decide +kernel
theorem dX9_sheet_14 : decode cX9_sheet 14 = .ok (.iconst (-1), 1) := by decide +kernel
theorem dX9_sheet_15 : decode cX9_sheet 15 = .ok (.ireturn, 1) := by decide +kernel
theorem dX9_sheet_16 : decode cX9_sheet 16 = .ok (.iload_n 3, 1) := by decide +kernel
theorem dX9_sheet_17 : decode cX9_sheet 17 = .ok (.ifCond .ge 6, 3) := by decide +kernel
theorem dX9_sheet_20 : decode cX9_sheet 20 = .ok (.bipush (-14), 2) := by decide +kernel
theorem dX9_sheet_22 : decode cX9_sheet 22 = .ok (.ireturn, 1) := by decide +kernel
theorem dX9_sheet_23 : decode cX9_sheet 23 = .ok (.aload_n 0, 1) := by decide +kernel
theorem dX9_sheet_24 : decode cX9_sheet 24 = .ok (.getfield 62, 3) := by decide +kernel
theorem dX9_sheet_27 : decode cX9_sheet 27 = .ok (.iload_n 1, 1) := by decide +kernel
theorem dX9_sheet_28 : decode cX9_sheet 28 = .ok (.iload_n 2, 1) := by decide +kernel
theorem dX9_sheet_29 : decode cX9_sheet 29 = .ok (.iastore, 1) := by decide +kernel
theorem dX9_sheet_30 : decode cX9_sheet 30 = .ok (.aload_n 0, 1) := by decide +kernel
theorem dX9_sheet_31 : decode cX9_sheet 31 = .ok (.getfield 65, 3) := by decide +kernel
theorem dX9_sheet_34 : decode cX9_sheet 34 = .ok (.iload_n 1, 1) := by decide +kernel
theorem dX9_sheet_35 : decode cX9_sheet 35 = .ok (.iload_n 3, 1) := by decide +kernel
theorem dX9_sheet_36 : decode cX9_sheet 36 = .ok (.iastore, 1) := by decide +kernel
theorem dX9_sheet_37 : decode cX9_sheet 37 = .ok (.iconst 0, 1) := by decide +kernel
theorem dX9_sheet_38 : decode cX9_sheet 38 = .ok (.istore 4, 2) := by decide +kernel
theorem dX9_sheet_40 : decode cX9_sheet 40 = .ok (.iload 4, 2) := by decide +kernel
theorem dX9_sheet_42 : decode cX9_sheet 42 = .ok (.bipush 24, 2) := by decide +kernel
theorem dX9_sheet_44 : decode cX9_sheet 44 = .ok (.if_icmp .ge 22, 3) := by decide +kernel
theorem dX9_sheet_47 : decode cX9_sheet 47 = .ok (.aload_n 0, 1) := by decide +kernel
theorem dX9_sheet_48 : decode cX9_sheet 48 = .ok (.getfield 68, 3) := by decide +kernel
theorem dX9_sheet_51 : decode cX9_sheet 51 = .ok (.bipush 24, 2) := by decide +kernel
theorem dX9_sheet_53 : decode cX9_sheet 53 = .ok (.iload_n 1, 1) := by decide +kernel
theorem dX9_sheet_54 : decode cX9_sheet 54 = .ok (.imul, 1) := by decide +kernel
theorem dX9_sheet_55 : decode cX9_sheet 55 = .ok (.iload 4, 2) := by decide +kernel
theorem dX9_sheet_57 : decode cX9_sheet 57 = .ok (.iadd, 1) := by decide +kernel
theorem dX9_sheet_58 : decode cX9_sheet 58 = .ok (.iconst 0, 1) := by decide +kernel
theorem dX9_sheet_59 : decode cX9_sheet 59 = .ok (.iastore, 1) := by decide +kernel
theorem dX9_sheet_60 : decode cX9_sheet 60 = .ok (.iinc 4 1, 3) := by decide +kernel
theorem dX9_sheet_63 : decode cX9_sheet 63 = .ok (.goto (-23), 3) := by decide +kernel
theorem dX9_sheet_66 : decode cX9_sheet 66 = .ok (.iload_n 3, 1) := by decide +kernel
theorem dX9_sheet_67 : decode cX9_sheet 67 = .ok (.ireturn, 1) := by decide +kernel
theorem dX9_drop_0 : decode cX9_drop 0 = .ok (.iload_n 1, 1) := by decide +kernel
theorem dX9_drop_1 : decode cX9_drop 1 = .ok (.i2l, 1) := by decide +kernel
theorem dX9_drop_2 : decode cX9_drop 2 = .ok (.lconst 0, 1) := by decide +kernel
theorem dX9_drop_3 : decode cX9_drop 3 = .ok (.ldc2_w 92, 3) := by decide +kernel
theorem dX9_drop_6 : decode cX9_drop 6 = .ok (.invokestatic 75, 3) := by decide +kernel
theorem dX9_drop_9 : decode cX9_drop 9 = .ok (.ifCond .ne 5, 3) := by decide +kernel
theorem dX9_drop_12 : decode cX9_drop 12 = .ok (.iconst (-1), 1) := by decide +kernel
theorem dX9_drop_13 : decode cX9_drop 13 = .ok (.ireturn, 1) := by decide +kernel
theorem dX9_drop_14 : decode cX9_drop 14 = .ok (.aload_n 0, 1) := by decide +kernel
theorem dX9_drop_15 : decode cX9_drop 15 = .ok (.getfield 62, 3) := by decide +kernel
theorem dX9_drop_18 : decode cX9_drop 18 = .ok (.iload_n 1, 1) := by decide +kernel
theorem dX9_drop_19 : decode cX9_drop 19 = .ok (.iaload, 1) := by decide +kernel
theorem dX9_drop_20 : decode cX9_drop 20 = .ok (.ifCond .ge 6, 3) := by decide +kernel
theorem dX9_drop_23 : decode cX9_drop 23 = .ok (.bipush (-11), 2) := by decide +kernel
theorem dX9_drop_25 : decode cX9_drop 25 = .ok (.ireturn, 1) := by decide +kernel
theorem dX9_drop_26 : decode cX9_drop 26 = .ok (.aload_n 0, 1) := by decide +kernel
theorem dX9_drop_27 : decode cX9_drop 27 = .ok (.getfield 62, 3) := by decide +kernel
theorem dX9_drop_30 : decode cX9_drop 30 = .ok (.iload_n 1, 1) := by decide +kernel
theorem dX9_drop_31 : decode cX9_drop 31 = .ok (.iconst (-1), 1) := by decide +kernel
theorem dX9_drop_32 : decode cX9_drop 32 = .ok (.iastore, 1) := by decide +kernel
theorem dX9_drop_33 : decode cX9_drop 33 = .ok (.aload_n 0, 1) := by decide +kernel
theorem dX9_drop_34 : decode cX9_drop 34 = .ok (.getfield 65, 3) := by decide +kernel
theorem dX9_drop_37 : decode cX9_drop 37 = .ok (.iload_n 1, 1) := by decide +kernel
theorem dX9_drop_38 : decode cX9_drop 38 = .ok (.iaload, 1) := by decide +kernel
theorem dX9_drop_39 : decode cX9_drop 39 = .ok (.ireturn, 1) := by decide +kernel
theorem dX9_lacksRow_0 : decode cX9_lacksRow 0 = .ok (.aload_n 0, 1) := by decide +kernel
theorem dX9_lacksRow_1 : decode cX9_lacksRow 1 = .ok (.getfield 62, 3) := by decide +kernel
theorem dX9_lacksRow_4 : decode cX9_lacksRow 4 = .ok (.iload_n 1, 1) := by decide +kernel
theorem dX9_lacksRow_5 : decode cX9_lacksRow 5 = .ok (.iaload, 1) := by decide +kernel
theorem dX9_lacksRow_6 : decode cX9_lacksRow 6 = .ok (.iload_n 2, 1) := by decide +kernel
theorem dX9_lacksRow_7 : decode cX9_lacksRow 7 = .ok (.if_icmp .eq 20, 3) := by decide +kernel
theorem dX9_lacksRow_10 : decode cX9_lacksRow 10 = .ok (.aload_n 0, 1) := by decide +kernel
theorem dX9_lacksRow_11 : decode cX9_lacksRow 11 = .ok (.getfield 62, 3) := by decide +kernel
theorem dX9_lacksRow_14 : decode cX9_lacksRow 14 = .ok (.iload_n 1, 1) := by decide +kernel
theorem dX9_lacksRow_15 : decode cX9_lacksRow 15 = .ok (.iaload, 1) := by decide +kernel
theorem dX9_lacksRow_16 : decode cX9_lacksRow 16 = .ok (.ifCond .ge 8, 3) := by decide +kernel
theorem dX9_lacksRow_19 : decode cX9_lacksRow 19 = .ok (.bipush (-11), 2) := by decide +kernel
theorem dX9_lacksRow_21 : decode cX9_lacksRow 21 = .ok (.goto 5, 3) := by decide +kernel
theorem dX9_lacksRow_24 : decode cX9_lacksRow 24 = .ok (.bipush (-12), 2) := by decide +kernel
theorem dX9_lacksRow_26 : decode cX9_lacksRow 26 = .ok (.ireturn, 1) := by decide +kernel
theorem dX9_lacksRow_27 : decode cX9_lacksRow 27 = .ok (.iload_n 3, 1) := by decide +kernel
theorem dX9_lacksRow_28 : decode cX9_lacksRow 28 = .ok (.i2l, 1) := by decide +kernel
theorem dX9_lacksRow_29 : decode cX9_lacksRow 29 = .ok (.lconst 0, 1) := by decide +kernel
theorem dX9_lacksRow_30 : decode cX9_lacksRow 30 = .ok (.aload_n 0, 1) := by decide +kernel
theorem dX9_lacksRow_31 : decode cX9_lacksRow 31 = .ok (.getfield 65, 3) := by decide +kernel
theorem dX9_lacksRow_34 : decode cX9_lacksRow 34 = .ok (.iload_n 1, 1) := by decide +kernel
theorem dX9_lacksRow_35 : decode cX9_lacksRow 35 = .ok (.iaload, 1) := by decide +kernel
theorem dX9_lacksRow_36 : decode cX9_lacksRow 36 = .ok (.iload 4, 2) := by decide +kernel
theorem dX9_lacksRow_38 : decode cX9_lacksRow 38 = .ok (.isub, 1) := by decide +kernel
theorem dX9_lacksRow_39 : decode cX9_lacksRow 39 = .ok (.i2l, 1) := by decide +kernel
theorem dX9_lacksRow_40 : decode cX9_lacksRow 40 = .ok (.invokestatic 75, 3) := by decide +kernel
end
section
theorem dX9_lacksRow_43 : decode cX9_lacksRow 43 = .ok (.ifCond .eq 7, 3) := by decide +kernel
theorem dX9_lacksRow_46 : decode cX9_lacksRow 46 = .ok (.iconst 0, 1) := by decide +kernel
theorem dX9_lacksRow_47 : decode cX9_lacksRow 47 = .ok (.goto 5, 3) := by decide +kernel
theorem dX9_lacksRow_50 : decode cX9_lacksRow 50 = .ok (.bipush (-13), 2) := by decide +kernel
theorem dX9_lacksRow_52 : decode cX9_lacksRow 52 = .ok (.ireturn, 1) := by decide +kernel
theorem dX9_item_0 : decode cX9_item 0 = .ok (.iload_n 1, 1) := by decide +kernel
theorem dX9_item_1 : decode cX9_item 1 = .ok (.iload_n 2, 1) := by decide +kernel
theorem dX9_item_2 : decode cX9_item 2 = .ok (.invokestatic 241, 3) := by decide +kernel
theorem dX9_item_5 : decode cX9_item 5 = .ok (.ifCond .ne 5, 3) := by decide +kernel
theorem dX9_item_8 : decode cX9_item 8 = .ok (.iconst (-1), 1) := by decide +kernel
theorem dX9_item_9 : decode cX9_item 9 = .ok (.ireturn, 1) := by decide +kernel
theorem dX9_item_10 : decode cX9_item 10 = .ok (.aload_n 0, 1) := by decide +kernel
theorem dX9_item_11 : decode cX9_item 11 = .ok (.iload_n 1, 1) := by decide +kernel
theorem dX9_item_12 : decode cX9_item 12 = .ok (.iload_n 2, 1) := by decide +kernel
theorem dX9_item_13 : decode cX9_item 13 = .ok (.iload_n 3, 1) := by decide +kernel
theorem dX9_item_14 : decode cX9_item 14 = .ok (.iconst 1, 1) := by decide +kernel
theorem dX9_item_15 : decode cX9_item 15 = .ok (.invokevirtual 244, 3) := by decide +kernel
theorem dX9_item_18 : decode cX9_item 18 = .ok (.istore 5, 2) := by decide +kernel
theorem dX9_item_20 : decode cX9_item 20 = .ok (.iload 5, 2) := by decide +kernel
theorem dX9_item_22 : decode cX9_item 22 = .ok (.ifCond .ge 6, 3) := by decide +kernel
theorem dX9_item_25 : decode cX9_item 25 = .ok (.iload 5, 2) := by decide +kernel
theorem dX9_item_27 : decode cX9_item 27 = .ok (.ireturn, 1) := by decide +kernel
theorem dX9_item_28 : decode cX9_item 28 = .ok (.aload_n 0, 1) := by decide +kernel
theorem dX9_item_29 : decode cX9_item 29 = .ok (.getfield 68, 3) := by decide +kernel
theorem dX9_item_32 : decode cX9_item 32 = .ok (.bipush 24, 2) := by decide +kernel
theorem dX9_item_34 : decode cX9_item 34 = .ok (.iload_n 1, 1) := by decide +kernel
theorem dX9_item_35 : decode cX9_item 35 = .ok (.imul, 1) := by decide +kernel
theorem dX9_item_36 : decode cX9_item 36 = .ok (.iload_n 3, 1) := by decide +kernel
theorem dX9_item_37 : decode cX9_item 37 = .ok (.iadd, 1) := by decide +kernel
theorem dX9_item_38 : decode cX9_item 38 = .ok (.iload_n 2, 1) := by decide +kernel
theorem dX9_item_39 : decode cX9_item 39 = .ok (.ifCond .ne 14, 3) := by decide +kernel
theorem dX9_item_42 : decode cX9_item 42 = .ok (.iload 4, 2) := by decide +kernel
theorem dX9_item_44 : decode cX9_item 44 = .ok (.bipush 24, 2) := by decide +kernel
theorem dX9_item_46 : decode cX9_item 46 = .ok (.ishl, 1) := by decide +kernel
theorem dX9_item_47 : decode cX9_item 47 = .ok (.bipush 24, 2) := by decide +kernel
theorem dX9_item_49 : decode cX9_item 49 = .ok (.ishr, 1) := by decide +kernel
theorem dX9_item_50 : decode cX9_item 50 = .ok (.goto 21, 3) := by decide +kernel
theorem dX9_item_53 : decode cX9_item 53 = .ok (.iload_n 2, 1) := by decide +kernel
theorem dX9_item_54 : decode cX9_item 54 = .ok (.iconst 1, 1) := by decide +kernel
theorem dX9_item_55 : decode cX9_item 55 = .ok (.if_icmp .ne 14, 3) := by decide +kernel
theorem dX9_item_58 : decode cX9_item 58 = .ok (.iload 4, 2) := by decide +kernel
theorem dX9_item_60 : decode cX9_item 60 = .ok (.bipush 16, 2) := by decide +kernel
theorem dX9_item_62 : decode cX9_item 62 = .ok (.ishl, 1) := by decide +kernel
theorem dX9_item_63 : decode cX9_item 63 = .ok (.bipush 16, 2) := by decide +kernel
theorem dX9_item_65 : decode cX9_item 65 = .ok (.ishr, 1) := by decide +kernel
theorem dX9_item_66 : decode cX9_item 66 = .ok (.goto 5, 3) := by decide +kernel
theorem dX9_item_69 : decode cX9_item 69 = .ok (.iload 4, 2) := by decide +kernel
theorem dX9_item_71 : decode cX9_item 71 = .ok (.iastore, 1) := by decide +kernel
theorem dX9_item_72 : decode cX9_item 72 = .ok (.iconst 1, 1) := by decide +kernel
theorem dX9_item_73 : decode cX9_item 73 = .ok (.ireturn, 1) := by decide +kernel
theorem dX9_sow_0 : decode cX9_sow 0 = .ok (.aload_n 0, 1) := by decide +kernel
theorem dX9_sow_1 : decode cX9_sow 1 = .ok (.iload_n 1, 1) := by decide +kernel
theorem dX9_sow_2 : decode cX9_sow 2 = .ok (.invokevirtual 94, 3) := by decide +kernel
theorem dX9_sow_5 : decode cX9_sow 5 = .ok (.ifCond .eq 11, 3) := by decide +kernel
theorem dX9_sow_8 : decode cX9_sow 8 = .ok (.iload_n 2, 1) := by decide +kernel
theorem dX9_sow_9 : decode cX9_sow 9 = .ok (.iload_n 3, 1) := by decide +kernel
theorem dX9_sow_10 : decode cX9_sow 10 = .ok (.invokestatic 241, 3) := by decide +kernel
theorem dX9_sow_13 : decode cX9_sow 13 = .ok (.ifCond .ne 5, 3) := by decide +kernel
theorem dX9_sow_16 : decode cX9_sow 16 = .ok (.iconst (-1), 1) := by decide +kernel
theorem dX9_sow_17 : decode cX9_sow 17 = .ok (.ireturn, 1) := by decide +kernel
theorem dX9_sow_18 : decode cX9_sow 18 = .ok (.aload_n 0, 1) := by decide +kernel
theorem dX9_sow_19 : decode cX9_sow 19 = .ok (.iload_n 2, 1) := by decide +kernel
theorem dX9_sow_20 : decode cX9_sow 20 = .ok (.iload_n 3, 1) := by decide +kernel
theorem dX9_sow_21 : decode cX9_sow 21 = .ok (.iload 4, 2) := by decide +kernel
theorem dX9_sow_23 : decode cX9_sow 23 = .ok (.bipush 15, 2) := by decide +kernel
theorem dX9_sow_25 : decode cX9_sow 25 = .ok (.invokevirtual 244, 3) := by decide +kernel
theorem dX9_sow_28 : decode cX9_sow 28 = .ok (.istore 5, 2) := by decide +kernel
theorem dX9_sow_30 : decode cX9_sow 30 = .ok (.iload 5, 2) := by decide +kernel
theorem dX9_sow_32 : decode cX9_sow 32 = .ok (.ifCond .ge 6, 3) := by decide +kernel
theorem dX9_sow_35 : decode cX9_sow 35 = .ok (.iload 5, 2) := by decide +kernel
theorem dX9_sow_37 : decode cX9_sow 37 = .ok (.ireturn, 1) := by decide +kernel
theorem dX9_sow_38 : decode cX9_sow 38 = .ok (.bipush 24, 2) := by decide +kernel
theorem dX9_sow_40 : decode cX9_sow 40 = .ok (.iload_n 2, 1) := by decide +kernel
theorem dX9_sow_41 : decode cX9_sow 41 = .ok (.imul, 1) := by decide +kernel
theorem dX9_sow_42 : decode cX9_sow 42 = .ok (.iload 4, 2) := by decide +kernel
theorem dX9_sow_44 : decode cX9_sow 44 = .ok (.iadd, 1) := by decide +kernel
theorem dX9_sow_45 : decode cX9_sow 45 = .ok (.istore 6, 2) := by decide +kernel
theorem dX9_sow_47 : decode cX9_sow 47 = .ok (.iconst 0, 1) := by decide +kernel
theorem dX9_sow_48 : decode cX9_sow 48 = .ok (.istore 7, 2) := by decide +kernel
theorem dX9_sow_50 : decode cX9_sow 50 = .ok (.iload 7, 2) := by decide +kernel
theorem dX9_sow_52 : decode cX9_sow 52 = .ok (.bipush 15, 2) := by decide +kernel
theorem dX9_sow_54 : decode cX9_sow 54 = .ok (.if_icmp .ge 33, 3) := by decide +kernel
theorem dX9_sow_57 : decode cX9_sow 57 = .ok (.aload_n 0, 1) := by decide +kernel
theorem dX9_sow_58 : decode cX9_sow 58 = .ok (.getfield 68, 3) := by decide +kernel
theorem dX9_sow_61 : decode cX9_sow 61 = .ok (.iload 6, 2) := by decide +kernel
theorem dX9_sow_63 : decode cX9_sow 63 = .ok (.iload 7, 2) := by decide +kernel
theorem dX9_sow_65 : decode cX9_sow 65 = .ok (.iadd, 1) := by decide +kernel
theorem dX9_sow_66 : decode cX9_sow 66 = .ok (.iaload, 1) := by decide +kernel
theorem dX9_sow_67 : decode cX9_sow 67 = .ok (.i2l, 1) := by decide +kernel
theorem dX9_sow_68 : decode cX9_sow 68 = .ok (.lconst 0, 1) := by decide +kernel
theorem dX9_sow_69 : decode cX9_sow 69 = .ok (.ldc2_w 248, 3) := by decide +kernel
theorem dX9_sow_72 : decode cX9_sow 72 = .ok (.invokestatic 75, 3) := by decide +kernel
theorem dX9_sow_75 : decode cX9_sow 75 = .ok (.ifCond .ne 6, 3) := by decide +kernel
theorem dX9_sow_78 : decode cX9_sow 78 = .ok (.bipush (-2), 2) := by decide +kernel
theorem dX9_sow_80 : decode cX9_sow 80 = .ok (.ireturn, 1) := by decide +kernel
theorem dX9_sow_81 : decode cX9_sow 81 = .ok (.iinc 7 1, 3) := by decide +kernel
theorem dX9_sow_84 : decode cX9_sow 84 = .ok (.goto (-34), 3) := by decide +kernel
theorem dX9_sow_87 : decode cX9_sow 87 = .ok (.iconst 0, 1) := by decide +kernel
theorem dX9_sow_88 : decode cX9_sow 88 = .ok (.istore 7, 2) := by decide +kernel
theorem dX9_sow_90 : decode cX9_sow 90 = .ok (.iconst 0, 1) := by decide +kernel
theorem dX9_sow_91 : decode cX9_sow 91 = .ok (.istore 8, 2) := by decide +kernel
theorem dX9_sow_93 : decode cX9_sow 93 = .ok (.iload 8, 2) := by decide +kernel
theorem dX9_sow_95 : decode cX9_sow 95 = .ok (.bipush 15, 2) := by decide +kernel
theorem dX9_sow_97 : decode cX9_sow 97 = .ok (.if_icmp .ge 46, 3) := by decide +kernel
theorem dX9_sow_100 : decode cX9_sow 100 = .ok (.aload_n 0, 1) := by decide +kernel
theorem dX9_sow_101 : decode cX9_sow 101 = .ok (.getfield 16, 3) := by decide +kernel
theorem dX9_sow_104 : decode cX9_sow 104 = .ok (.bipush 15, 2) := by decide +kernel
theorem dX9_sow_106 : decode cX9_sow 106 = .ok (.iload_n 1, 1) := by decide +kernel
theorem dX9_sow_107 : decode cX9_sow 107 = .ok (.imul, 1) := by decide +kernel
theorem dX9_sow_108 : decode cX9_sow 108 = .ok (.iload 8, 2) := by decide +kernel
theorem dX9_sow_110 : decode cX9_sow 110 = .ok (.iadd, 1) := by decide +kernel
theorem dX9_sow_111 : decode cX9_sow 111 = .ok (.aload_n 0, 1) := by decide +kernel
theorem dX9_sow_112 : decode cX9_sow 112 = .ok (.getfield 68, 3) := by decide +kernel
theorem dX9_sow_115 : decode cX9_sow 115 = .ok (.iload 6, 2) := by decide +kernel
theorem dX9_sow_117 : decode cX9_sow 117 = .ok (.iload 8, 2) := by decide +kernel
theorem dX9_sow_119 : decode cX9_sow 119 = .ok (.iadd, 1) := by decide +kernel
theorem dX9_sow_120 : decode cX9_sow 120 = .ok (.iaload, 1) := by decide +kernel
theorem dX9_sow_121 : decode cX9_sow 121 = .ok (.iastore, 1) := by decide +kernel
theorem dX9_sow_122 : decode cX9_sow 122 = .ok (.iload 7, 2) := by decide +kernel
theorem dX9_sow_124 : decode cX9_sow 124 = .ok (.aload_n 0, 1) := by decide +kernel
theorem dX9_sow_125 : decode cX9_sow 125 = .ok (.getfield 68, 3) := by decide +kernel
theorem dX9_sow_128 : decode cX9_sow 128 = .ok (.iload 6, 2) := by decide +kernel
theorem dX9_sow_130 : decode cX9_sow 130 = .ok (.iload 8, 2) := by decide +kernel
theorem dX9_sow_132 : decode cX9_sow 132 = .ok (.iadd, 1) := by decide +kernel
theorem dX9_sow_133 : decode cX9_sow 133 = .ok (.iaload, 1) := by decide +kernel
theorem dX9_sow_134 : decode cX9_sow 134 = .ok (.iadd, 1) := by decide +kernel
theorem dX9_sow_135 : decode cX9_sow 135 = .ok (.istore 7, 2) := by decide +kernel
theorem dX9_sow_137 : decode cX9_sow 137 = .ok (.iinc 8 1, 3) := by decide +kernel
theorem dX9_sow_140 : decode cX9_sow 140 = .ok (.goto (-47), 3) := by decide +kernel
theorem dX9_sow_143 : decode cX9_sow 143 = .ok (.iload 7, 2) := by decide +kernel
theorem dX9_sow_145 : decode cX9_sow 145 = .ok (.ireturn, 1) := by decide +kernel
theorem dX9_film_0 : decode cX9_film 0 = .ok (.iload_n 1, 1) := by decide +kernel
theorem dX9_film_1 : decode cX9_film 1 = .ok (.iload_n 2, 1) := by decide +kernel
theorem dX9_film_2 : decode cX9_film 2 = .ok (.invokestatic 241, 3) := by decide +kernel
theorem dX9_film_5 : decode cX9_film 5 = .ok (.ifCond .ne 5, 3) := by decide +kernel
theorem dX9_film_8 : decode cX9_film 8 = .ok (.iconst (-1), 1) := by decide +kernel
theorem dX9_film_9 : decode cX9_film 9 = .ok (.ireturn, 1) := by decide +kernel
theorem dX9_film_10 : decode cX9_film 10 = .ok (.aload_n 0, 1) := by decide +kernel
theorem dX9_film_11 : decode cX9_film 11 = .ok (.iload_n 1, 1) := by decide +kernel
theorem dX9_film_12 : decode cX9_film 12 = .ok (.iload_n 2, 1) := by decide +kernel
theorem dX9_film_13 : decode cX9_film 13 = .ok (.iload_n 3, 1) := by decide +kernel
theorem dX9_film_14 : decode cX9_film 14 = .ok (.aload_n 0, 1) := by decide +kernel
theorem dX9_film_15 : decode cX9_film 15 = .ok (.getfield 71, 3) := by decide +kernel
theorem dX9_film_18 : decode cX9_film 18 = .ok (.invokevirtual 244, 3) := by decide +kernel
theorem dX9_film_21 : decode cX9_film 21 = .ok (.istore 4, 2) := by decide +kernel
theorem dX9_film_23 : decode cX9_film 23 = .ok (.iload 4, 2) := by decide +kernel
theorem dX9_film_25 : decode cX9_film 25 = .ok (.ifCond .ge 6, 3) := by decide +kernel
theorem dX9_film_28 : decode cX9_film 28 = .ok (.iload 4, 2) := by decide +kernel
theorem dX9_film_30 : decode cX9_film 30 = .ok (.ireturn, 1) := by decide +kernel
theorem dX9_film_31 : decode cX9_film 31 = .ok (.iconst 0, 1) := by decide +kernel
theorem dX9_film_32 : decode cX9_film 32 = .ok (.istore 5, 2) := by decide +kernel
theorem dX9_film_34 : decode cX9_film 34 = .ok (.iload 5, 2) := by decide +kernel
theorem dX9_film_36 : decode cX9_film 36 = .ok (.aload_n 0, 1) := by decide +kernel
theorem dX9_film_37 : decode cX9_film 37 = .ok (.getfield 71, 3) := by decide +kernel
theorem dX9_film_40 : decode cX9_film 40 = .ok (.if_icmp .ge 33, 3) := by decide +kernel
theorem dX9_film_43 : decode cX9_film 43 = .ok (.aload_n 0, 1) := by decide +kernel
theorem dX9_film_44 : decode cX9_film 44 = .ok (.getfield 68, 3) := by decide +kernel
theorem dX9_film_47 : decode cX9_film 47 = .ok (.bipush 24, 2) := by decide +kernel
theorem dX9_film_49 : decode cX9_film 49 = .ok (.iload_n 1, 1) := by decide +kernel
theorem dX9_film_50 : decode cX9_film 50 = .ok (.imul, 1) := by decide +kernel
theorem dX9_film_51 : decode cX9_film 51 = .ok (.iload_n 3, 1) := by decide +kernel
theorem dX9_film_52 : decode cX9_film 52 = .ok (.iadd, 1) := by decide +kernel
theorem dX9_film_53 : decode cX9_film 53 = .ok (.iload 5, 2) := by decide +kernel
theorem dX9_film_55 : decode cX9_film 55 = .ok (.iadd, 1) := by decide +kernel
theorem dX9_film_56 : decode cX9_film 56 = .ok (.aload_n 0, 1) := by decide +kernel
theorem dX9_film_57 : decode cX9_film 57 = .ok (.aload_n 0, 1) := by decide +kernel
theorem dX9_film_58 : decode cX9_film 58 = .ok (.iload 5, 2) := by decide +kernel
theorem dX9_film_60 : decode cX9_film 60 = .ok (.invokevirtual 104, 3) := by decide +kernel
theorem dX9_film_63 : decode cX9_film 63 = .ok (.invokevirtual 114, 3) := by decide +kernel
theorem dX9_film_66 : decode cX9_film 66 = .ok (.iastore, 1) := by decide +kernel
theorem dX9_film_67 : decode cX9_film 67 = .ok (.iinc 5 1, 3) := by decide +kernel
theorem dX9_film_70 : decode cX9_film 70 = .ok (.goto (-36), 3) := by decide +kernel
theorem dX9_film_73 : decode cX9_film 73 = .ok (.aload_n 0, 1) := by decide +kernel
theorem dX9_film_74 : decode cX9_film 74 = .ok (.getfield 71, 3) := by decide +kernel
theorem dX9_film_77 : decode cX9_film 77 = .ok (.ireturn, 1) := by decide +kernel
theorem dJ6_bitCount_0f7a4_0 : decode cJ6_bitCount_0f7a4 0 = .ok (.iload_n 0, 1) := by decide +kernel
theorem dJ6_bitCount_0f7a4_1 : decode cJ6_bitCount_0f7a4 1 = .ok (.iload_n 0, 1) := by decide +kernel
theorem dJ6_bitCount_0f7a4_2 : decode cJ6_bitCount_0f7a4 2 = .ok (.iconst 1, 1) := by decide +kernel
theorem dJ6_bitCount_0f7a4_3 : decode cJ6_bitCount_0f7a4 3 = .ok (.iushr, 1) := by decide +kernel
theorem dJ6_bitCount_0f7a4_4 : decode cJ6_bitCount_0f7a4 4 = .ok (.ldc_w 265, 3) := by decide +kernel
theorem dJ6_bitCount_0f7a4_7 : decode cJ6_bitCount_0f7a4 7 = .ok (.iand, 1) := by decide +kernel
theorem dJ6_bitCount_0f7a4_8 : decode cJ6_bitCount_0f7a4 8 = .ok (.isub, 1) := by decide +kernel
theorem dJ6_bitCount_0f7a4_9 : decode cJ6_bitCount_0f7a4 9 = .ok (.istore_n 0, 1) := by decide +kernel
theorem dJ6_bitCount_0f7a4_10 : decode cJ6_bitCount_0f7a4 10 = .ok (.iload_n 0, 1) := by decide +kernel
theorem dJ6_bitCount_0f7a4_11 : decode cJ6_bitCount_0f7a4 11 = .ok (.ldc_w 266, 3) := by decide +kernel
theorem dJ6_bitCount_0f7a4_14 : decode cJ6_bitCount_0f7a4 14 = .ok (.iand, 1) := by decide +kernel
theorem dJ6_bitCount_0f7a4_15 : decode cJ6_bitCount_0f7a4 15 = .ok (.iload_n 0, 1) := by decide +kernel
theorem dJ6_bitCount_0f7a4_16 : decode cJ6_bitCount_0f7a4 16 = .ok (.iconst 2, 1) := by decide +kernel
theorem dJ6_bitCount_0f7a4_17 : decode cJ6_bitCount_0f7a4 17 = .ok (.iushr, 1) := by decide +kernel
theorem dJ6_bitCount_0f7a4_18 : decode cJ6_bitCount_0f7a4 18 = .ok (.ldc_w 266, 3) := by decide +kernel
theorem dJ6_bitCount_0f7a4_21 : decode cJ6_bitCount_0f7a4 21 = .ok (.iand, 1) := by decide +kernel
theorem dJ6_bitCount_0f7a4_22 : decode cJ6_bitCount_0f7a4 22 = .ok (.iadd, 1) := by decide +kernel
theorem dJ6_bitCount_0f7a4_23 : decode cJ6_bitCount_0f7a4 23 = .ok (.istore_n 0, 1) := by decide +kernel
theorem dJ6_bitCount_0f7a4_24 : decode cJ6_bitCount_0f7a4 24 = .ok (.iload_n 0, 1) := by decide +kernel
theorem dJ6_bitCount_0f7a4_25 : decode cJ6_bitCount_0f7a4 25 = .ok (.iload_n 0, 1) := by decide +kernel
theorem dJ6_bitCount_0f7a4_26 : decode cJ6_bitCount_0f7a4 26 = .ok (.iconst 4, 1) := by decide +kernel
theorem dJ6_bitCount_0f7a4_27 : decode cJ6_bitCount_0f7a4 27 = .ok (.iushr, 1) := by decide +kernel
theorem dJ6_bitCount_0f7a4_28 : decode cJ6_bitCount_0f7a4 28 = .ok (.iadd, 1) := by decide +kernel
theorem dJ6_bitCount_0f7a4_29 : decode cJ6_bitCount_0f7a4 29 = .ok (.ldc_w 267, 3) := by decide +kernel
theorem dJ6_bitCount_0f7a4_32 : decode cJ6_bitCount_0f7a4 32 = .ok (.iand, 1) := by decide +kernel
theorem dJ6_bitCount_0f7a4_33 : decode cJ6_bitCount_0f7a4 33 = .ok (.istore_n 0, 1) := by decide +kernel
theorem dJ6_bitCount_0f7a4_34 : decode cJ6_bitCount_0f7a4 34 = .ok (.iload_n 0, 1) := by decide +kernel
theorem dJ6_bitCount_0f7a4_35 : decode cJ6_bitCount_0f7a4 35 = .ok (.iload_n 0, 1) := by decide +kernel
theorem dJ6_bitCount_0f7a4_36 : decode cJ6_bitCount_0f7a4 36 = .ok (.bipush 8, 2) := by decide +kernel
theorem dJ6_bitCount_0f7a4_38 : decode cJ6_bitCount_0f7a4 38 = .ok (.iushr, 1) := by decide +kernel
theorem dJ6_bitCount_0f7a4_39 : decode cJ6_bitCount_0f7a4 39 = .ok (.iadd, 1) := by decide +kernel
theorem dJ6_bitCount_0f7a4_40 : decode cJ6_bitCount_0f7a4 40 = .ok (.istore_n 0, 1) := by decide +kernel
theorem dJ6_bitCount_0f7a4_41 : decode cJ6_bitCount_0f7a4 41 = .ok (.iload_n 0, 1) := by decide +kernel
theorem dJ6_bitCount_0f7a4_42 : decode cJ6_bitCount_0f7a4 42 = .ok (.iload_n 0, 1) := by decide +kernel
theorem dJ6_bitCount_0f7a4_43 : decode cJ6_bitCount_0f7a4 43 = .ok (.bipush 16, 2) := by decide +kernel
theorem dJ6_bitCount_0f7a4_45 : decode cJ6_bitCount_0f7a4 45 = .ok (.iushr, 1) := by decide +kernel
theorem dJ6_bitCount_0f7a4_46 : decode cJ6_bitCount_0f7a4 46 = .ok (.iadd, 1) := by decide +kernel
theorem dJ6_bitCount_0f7a4_47 : decode cJ6_bitCount_0f7a4 47 = .ok (.istore_n 0, 1) := by decide +kernel
theorem dJ6_bitCount_0f7a4_48 : decode cJ6_bitCount_0f7a4 48 = .ok (.iload_n 0, 1) := by decide +kernel
theorem dJ6_bitCount_0f7a4_49 : decode cJ6_bitCount_0f7a4 49 = .ok (.bipush 63, 2) := by decide +kernel
theorem dJ6_bitCount_0f7a4_51 : decode cJ6_bitCount_0f7a4 51 = .ok (.iand, 1) := by decide +kernel
theorem dJ6_bitCount_0f7a4_52 : decode cJ6_bitCount_0f7a4 52 = .ok (.ireturn, 1) := by decide +kernel
theorem dJ9_max_7cf53_0 : decode cJ9_max_7cf53 0 = .ok (.iload_n 0, 1) := by decide +kernel
theorem dJ9_max_7cf53_1 : decode cJ9_max_7cf53 1 = .ok (.iload_n 1, 1) := by decide +kernel
theorem dJ9_max_7cf53_2 : decode cJ9_max_7cf53 2 = .ok (.if_icmp .lt 7, 3) := by decide +kernel
theorem dJ9_max_7cf53_5 : decode cJ9_max_7cf53 5 = .ok (.iload_n 0, 1) := by decide +kernel
theorem dJ9_max_7cf53_6 : decode cJ9_max_7cf53 6 = .ok (.goto 4, 3) := by decide +kernel
theorem dJ9_max_7cf53_9 : decode cJ9_max_7cf53 9 = .ok (.iload_n 1, 1) := by decide +kernel
theorem dJ9_max_7cf53_10 : decode cJ9_max_7cf53 10 = .ok (.ireturn, 1) := by decide +kernel
theorem dJ9_min_7cf53_0 : decode cJ9_min_7cf53 0 = .ok (.iload_n 0, 1) := by decide +kernel
theorem dJ9_min_7cf53_1 : decode cJ9_min_7cf53 1 = .ok (.iload_n 1, 1) := by decide +kernel
theorem dJ9_min_7cf53_2 : decode cJ9_min_7cf53 2 = .ok (.if_icmp .gt 7, 3) := by decide +kernel
theorem dJ9_min_7cf53_5 : decode cJ9_min_7cf53 5 = .ok (.iload_n 0, 1) := by decide +kernel
theorem dJ9_min_7cf53_6 : decode cJ9_min_7cf53 6 = .ok (.goto 4, 3) := by decide +kernel
theorem dJ9_min_7cf53_9 : decode cJ9_min_7cf53 9 = .ok (.iload_n 1, 1) := by decide +kernel
theorem dJ9_min_7cf53_10 : decode cJ9_min_7cf53 10 = .ok (.ireturn, 1) := by decide +kernel
theorem dJ7_fill_53178_0 : decode cJ7_fill_53178 0 = .ok (.iconst 0, 1) := by decide +kernel
theorem dJ7_fill_53178_1 : decode cJ7_fill_53178 1 = .ok (.istore_n 2, 1) := by decide +kernel
theorem dJ7_fill_53178_2 : decode cJ7_fill_53178 2 = .ok (.aload_n 0, 1) := by decide +kernel
theorem dJ7_fill_53178_3 : decode cJ7_fill_53178 3 = .ok (.arraylength, 1) := by decide +kernel
theorem dJ7_fill_53178_4 : decode cJ7_fill_53178 4 = .ok (.istore_n 3, 1) := by decide +kernel
theorem dJ7_fill_53178_5 : decode cJ7_fill_53178 5 = .ok (.iload_n 2, 1) := by decide +kernel
theorem dJ7_fill_53178_6 : decode cJ7_fill_53178 6 = .ok (.iload_n 3, 1) := by decide +kernel
theorem dJ7_fill_53178_7 : decode cJ7_fill_53178 7 = .ok (.if_icmp .ge 13, 3) := by decide +kernel
theorem dJ7_fill_53178_10 : decode cJ7_fill_53178 10 = .ok (.aload_n 0, 1) := by decide +kernel
theorem dJ7_fill_53178_11 : decode cJ7_fill_53178 11 = .ok (.iload_n 2, 1) := by decide +kernel
theorem dJ7_fill_53178_12 : decode cJ7_fill_53178 12 = .ok (.iload_n 1, 1) := by decide +kernel
theorem dJ7_fill_53178_13 : decode cJ7_fill_53178 13 = .ok (.iastore, 1) := by decide +kernel
theorem dJ7_fill_53178_14 : decode cJ7_fill_53178 14 = .ok (.iinc 2 1, 3) := by decide +kernel
theorem dJ7_fill_53178_17 : decode cJ7_fill_53178 17 = .ok (.goto (-12), 3) := by decide +kernel
theorem dJ7_fill_53178_20 : decode cJ7_fill_53178 20 = .ok (.return_, 1) := by decide +kernel
theorem dL_law_0 : decode cL_law 0 = .ok (.new 7, 3) := by decide +kernel
theorem dL_law_3 : decode cL_law 3 = .ok (.dup, 1) := by decide +kernel
theorem dL_law_4 : decode cL_law 4 = .ok (.invokespecial 9, 3) := by decide +kernel
theorem dL_law_7 : decode cL_law 7 = .ok (.astore_n 1, 1) := by decide +kernel
theorem dL_law_8 : decode cL_law 8 = .ok (.new 10, 3) := by decide +kernel
theorem dL_law_11 : decode cL_law 11 = .ok (.dup, 1) := by decide +kernel
theorem dL_law_12 : decode cL_law 12 = .ok (.invokespecial 12, 3) := by decide +kernel
theorem dL_law_15 : decode cL_law 15 = .ok (.astore_n 2, 1) := by decide +kernel
theorem dL_law_16 : decode cL_law 16 = .ok (.iconst 0, 1) := by decide +kernel
theorem dL_law_17 : decode cL_law 17 = .ok (.istore_n 3, 1) := by decide +kernel
theorem dL_law_18 : decode cL_law 18 = .ok (.iload_n 3, 1) := by decide +kernel
theorem dL_law_19 : decode cL_law 19 = .ok (.aload_n 0, 1) := by decide +kernel
theorem dL_law_20 : decode cL_law 20 = .ok (.arraylength, 1) := by decide +kernel
theorem dL_law_21 : decode cL_law 21 = .ok (.iconst 5, 1) := by decide +kernel
theorem dL_law_22 : decode cL_law 22 = .ok (.isub, 1) := by decide +kernel
theorem dL_law_23 : decode cL_law 23 = .ok (.if_icmp .gt 1363, 3) := by decide +kernel
theorem dL_law_26 : decode cL_law 26 = .ok (.aload_n 0, 1) := by decide +kernel
theorem dL_law_27 : decode cL_law 27 = .ok (.iload_n 3, 1) := by decide +kernel
theorem dL_law_28 : decode cL_law 28 = .ok (.iaload, 1) := by decide +kernel
theorem dL_law_29 : decode cL_law 29 = .ok (.bipush 63, 2) := by decide +kernel
theorem dL_law_31 : decode cL_law 31 = .ok (.iand, 1) := by decide +kernel
theorem dL_law_32 : decode cL_law 32 = .ok (.tableswitch 1348 0 37 #[168, 191, 224, 257, 280, 303, 326, 349, 382, 405, 448, 471, 494, 557, 570, 583, 616, 649, 708, 731, 764, 787, 820, 853, 886, 909, 942, 985, 1018, 1051, 1084, 1107, 1120, 1133, 1186, 1229, 1252, 1305], 168) := by decide +kernel
theorem dL_law_200 : decode cL_law 200 = .ok (.aload_n 1, 1) := by decide +kernel
theorem dL_law_201 : decode cL_law 201 = .ok (.aload_n 0, 1) := by decide +kernel
theorem dL_law_202 : decode cL_law 202 = .ok (.iload_n 3, 1) := by decide +kernel
theorem dL_law_203 : decode cL_law 203 = .ok (.iconst 1, 1) := by decide +kernel
theorem dL_law_204 : decode cL_law 204 = .ok (.iadd, 1) := by decide +kernel
theorem dL_law_205 : decode cL_law 205 = .ok (.iaload, 1) := by decide +kernel
theorem dL_law_206 : decode cL_law 206 = .ok (.invokevirtual 13, 3) := by decide +kernel
theorem dL_law_209 : decode cL_law 209 = .ok (.aload_n 2, 1) := by decide +kernel
theorem dL_law_210 : decode cL_law 210 = .ok (.aload_n 0, 1) := by decide +kernel
theorem dL_law_211 : decode cL_law 211 = .ok (.iload_n 3, 1) := by decide +kernel
theorem dL_law_212 : decode cL_law 212 = .ok (.iconst 1, 1) := by decide +kernel
theorem dL_law_213 : decode cL_law 213 = .ok (.iadd, 1) := by decide +kernel
theorem dL_law_214 : decode cL_law 214 = .ok (.iaload, 1) := by decide +kernel
theorem dL_law_215 : decode cL_law 215 = .ok (.invokevirtual 17, 3) := by decide +kernel
theorem dL_law_218 : decode cL_law 218 = .ok (.if_icmp .eq 1162, 3) := by decide +kernel
theorem dL_law_221 : decode cL_law 221 = .ok (.iconst 0, 1) := by decide +kernel
theorem dL_law_222 : decode cL_law 222 = .ok (.ireturn, 1) := by decide +kernel
theorem dL_law_223 : decode cL_law 223 = .ok (.aload_n 1, 1) := by decide +kernel
theorem dL_law_224 : decode cL_law 224 = .ok (.aload_n 0, 1) := by decide +kernel
theorem dL_law_225 : decode cL_law 225 = .ok (.iload_n 3, 1) := by decide +kernel
theorem dL_law_226 : decode cL_law 226 = .ok (.iconst 1, 1) := by decide +kernel
theorem dL_law_227 : decode cL_law 227 = .ok (.iadd, 1) := by decide +kernel
theorem dL_law_228 : decode cL_law 228 = .ok (.iaload, 1) := by decide +kernel
theorem dL_law_229 : decode cL_law 229 = .ok (.aload_n 0, 1) := by decide +kernel
theorem dL_law_230 : decode cL_law 230 = .ok (.iload_n 3, 1) := by decide +kernel
theorem dL_law_231 : decode cL_law 231 = .ok (.iconst 2, 1) := by decide +kernel
theorem dL_law_232 : decode cL_law 232 = .ok (.iadd, 1) := by decide +kernel
theorem dL_law_233 : decode cL_law 233 = .ok (.iaload, 1) := by decide +kernel
theorem dL_law_234 : decode cL_law 234 = .ok (.invokevirtual 18, 3) := by decide +kernel
theorem dL_law_237 : decode cL_law 237 = .ok (.aload_n 2, 1) := by decide +kernel
theorem dL_law_238 : decode cL_law 238 = .ok (.aload_n 0, 1) := by decide +kernel
theorem dL_law_239 : decode cL_law 239 = .ok (.iload_n 3, 1) := by decide +kernel
theorem dL_law_240 : decode cL_law 240 = .ok (.iconst 1, 1) := by decide +kernel
theorem dL_law_241 : decode cL_law 241 = .ok (.iadd, 1) := by decide +kernel
theorem dL_law_242 : decode cL_law 242 = .ok (.iaload, 1) := by decide +kernel
theorem dL_law_243 : decode cL_law 243 = .ok (.aload_n 0, 1) := by decide +kernel
theorem dL_law_244 : decode cL_law 244 = .ok (.iload_n 3, 1) := by decide +kernel
theorem dL_law_245 : decode cL_law 245 = .ok (.iconst 2, 1) := by decide +kernel
theorem dL_law_246 : decode cL_law 246 = .ok (.iadd, 1) := by decide +kernel
theorem dL_law_247 : decode cL_law 247 = .ok (.iaload, 1) := by decide +kernel
theorem dL_law_248 : decode cL_law 248 = .ok (.invokevirtual 22, 3) := by decide +kernel
theorem dL_law_251 : decode cL_law 251 = .ok (.if_icmp .eq 1129, 3) := by decide +kernel
theorem dL_law_254 : decode cL_law 254 = .ok (.iconst 0, 1) := by decide +kernel
theorem dL_law_255 : decode cL_law 255 = .ok (.ireturn, 1) := by decide +kernel
theorem dL_law_256 : decode cL_law 256 = .ok (.aload_n 1, 1) := by decide +kernel
theorem dL_law_257 : decode cL_law 257 = .ok (.aload_n 0, 1) := by decide +kernel
theorem dL_law_258 : decode cL_law 258 = .ok (.iload_n 3, 1) := by decide +kernel
theorem dL_law_259 : decode cL_law 259 = .ok (.iconst 1, 1) := by decide +kernel
theorem dL_law_260 : decode cL_law 260 = .ok (.iadd, 1) := by decide +kernel
theorem dL_law_261 : decode cL_law 261 = .ok (.iaload, 1) := by decide +kernel
theorem dL_law_262 : decode cL_law 262 = .ok (.aload_n 0, 1) := by decide +kernel
theorem dL_law_263 : decode cL_law 263 = .ok (.iload_n 3, 1) := by decide +kernel
theorem dL_law_264 : decode cL_law 264 = .ok (.iconst 2, 1) := by decide +kernel
theorem dL_law_265 : decode cL_law 265 = .ok (.iadd, 1) := by decide +kernel
theorem dL_law_266 : decode cL_law 266 = .ok (.iaload, 1) := by decide +kernel
theorem dL_law_267 : decode cL_law 267 = .ok (.invokevirtual 23, 3) := by decide +kernel
theorem dL_law_270 : decode cL_law 270 = .ok (.aload_n 2, 1) := by decide +kernel
theorem dL_law_271 : decode cL_law 271 = .ok (.aload_n 0, 1) := by decide +kernel
theorem dL_law_272 : decode cL_law 272 = .ok (.iload_n 3, 1) := by decide +kernel
theorem dL_law_273 : decode cL_law 273 = .ok (.iconst 1, 1) := by decide +kernel
theorem dL_law_274 : decode cL_law 274 = .ok (.iadd, 1) := by decide +kernel
theorem dL_law_275 : decode cL_law 275 = .ok (.iaload, 1) := by decide +kernel
theorem dL_law_276 : decode cL_law 276 = .ok (.aload_n 0, 1) := by decide +kernel
theorem dL_law_277 : decode cL_law 277 = .ok (.iload_n 3, 1) := by decide +kernel
theorem dL_law_278 : decode cL_law 278 = .ok (.iconst 2, 1) := by decide +kernel
theorem dL_law_279 : decode cL_law 279 = .ok (.iadd, 1) := by decide +kernel
theorem dL_law_280 : decode cL_law 280 = .ok (.iaload, 1) := by decide +kernel
theorem dL_law_281 : decode cL_law 281 = .ok (.invokevirtual 26, 3) := by decide +kernel
theorem dL_law_284 : decode cL_law 284 = .ok (.if_icmp .eq 1096, 3) := by decide +kernel
theorem dL_law_287 : decode cL_law 287 = .ok (.iconst 0, 1) := by decide +kernel
theorem dL_law_288 : decode cL_law 288 = .ok (.ireturn, 1) := by decide +kernel
theorem dL_law_289 : decode cL_law 289 = .ok (.aload_n 1, 1) := by decide +kernel
theorem dL_law_290 : decode cL_law 290 = .ok (.aload_n 0, 1) := by decide +kernel
theorem dL_law_291 : decode cL_law 291 = .ok (.iload_n 3, 1) := by decide +kernel
theorem dL_law_292 : decode cL_law 292 = .ok (.iconst 1, 1) := by decide +kernel
theorem dL_law_293 : decode cL_law 293 = .ok (.iadd, 1) := by decide +kernel
theorem dL_law_294 : decode cL_law 294 = .ok (.iaload, 1) := by decide +kernel
theorem dL_law_295 : decode cL_law 295 = .ok (.invokevirtual 27, 3) := by decide +kernel
theorem dL_law_298 : decode cL_law 298 = .ok (.aload_n 2, 1) := by decide +kernel
theorem dL_law_299 : decode cL_law 299 = .ok (.aload_n 0, 1) := by decide +kernel
theorem dL_law_300 : decode cL_law 300 = .ok (.iload_n 3, 1) := by decide +kernel
theorem dL_law_301 : decode cL_law 301 = .ok (.iconst 1, 1) := by decide +kernel
theorem dL_law_302 : decode cL_law 302 = .ok (.iadd, 1) := by decide +kernel
theorem dL_law_303 : decode cL_law 303 = .ok (.iaload, 1) := by decide +kernel
theorem dL_law_304 : decode cL_law 304 = .ok (.invokevirtual 30, 3) := by decide +kernel
theorem dL_law_307 : decode cL_law 307 = .ok (.if_icmp .eq 1073, 3) := by decide +kernel
theorem dL_law_310 : decode cL_law 310 = .ok (.iconst 0, 1) := by decide +kernel
theorem dL_law_311 : decode cL_law 311 = .ok (.ireturn, 1) := by decide +kernel
theorem dL_law_312 : decode cL_law 312 = .ok (.aload_n 1, 1) := by decide +kernel
theorem dL_law_313 : decode cL_law 313 = .ok (.aload_n 0, 1) := by decide +kernel
theorem dL_law_314 : decode cL_law 314 = .ok (.iload_n 3, 1) := by decide +kernel
theorem dL_law_315 : decode cL_law 315 = .ok (.iconst 1, 1) := by decide +kernel
theorem dL_law_316 : decode cL_law 316 = .ok (.iadd, 1) := by decide +kernel
theorem dL_law_317 : decode cL_law 317 = .ok (.iaload, 1) := by decide +kernel
theorem dL_law_318 : decode cL_law 318 = .ok (.invokevirtual 31, 3) := by decide +kernel
theorem dL_law_321 : decode cL_law 321 = .ok (.aload_n 2, 1) := by decide +kernel
theorem dL_law_322 : decode cL_law 322 = .ok (.aload_n 0, 1) := by decide +kernel
theorem dL_law_323 : decode cL_law 323 = .ok (.iload_n 3, 1) := by decide +kernel
theorem dL_law_324 : decode cL_law 324 = .ok (.iconst 1, 1) := by decide +kernel
theorem dL_law_325 : decode cL_law 325 = .ok (.iadd, 1) := by decide +kernel
theorem dL_law_326 : decode cL_law 326 = .ok (.iaload, 1) := by decide +kernel
theorem dL_law_327 : decode cL_law 327 = .ok (.invokevirtual 34, 3) := by decide +kernel
theorem dL_law_330 : decode cL_law 330 = .ok (.if_icmp .eq 1050, 3) := by decide +kernel
theorem dL_law_333 : decode cL_law 333 = .ok (.iconst 0, 1) := by decide +kernel
theorem dL_law_334 : decode cL_law 334 = .ok (.ireturn, 1) := by decide +kernel
theorem dL_law_335 : decode cL_law 335 = .ok (.aload_n 1, 1) := by decide +kernel
theorem dL_law_336 : decode cL_law 336 = .ok (.aload_n 0, 1) := by decide +kernel
theorem dL_law_337 : decode cL_law 337 = .ok (.iload_n 3, 1) := by decide +kernel
theorem dL_law_338 : decode cL_law 338 = .ok (.iconst 1, 1) := by decide +kernel
theorem dL_law_339 : decode cL_law 339 = .ok (.iadd, 1) := by decide +kernel
theorem dL_law_340 : decode cL_law 340 = .ok (.iaload, 1) := by decide +kernel
theorem dL_law_341 : decode cL_law 341 = .ok (.invokevirtual 35, 3) := by decide +kernel
theorem dL_law_344 : decode cL_law 344 = .ok (.aload_n 2, 1) := by decide +kernel
theorem dL_law_345 : decode cL_law 345 = .ok (.aload_n 0, 1) := by decide +kernel
theorem dL_law_346 : decode cL_law 346 = .ok (.iload_n 3, 1) := by decide +kernel
theorem dL_law_347 : decode cL_law 347 = .ok (.iconst 1, 1) := by decide +kernel
theorem dL_law_348 : decode cL_law 348 = .ok (.iadd, 1) := by decide +kernel
theorem dL_law_349 : decode cL_law 349 = .ok (.iaload, 1) := by decide +kernel
theorem dL_law_350 : decode cL_law 350 = .ok (.invokevirtual 38, 3) := by decide +kernel
theorem dL_law_353 : decode cL_law 353 = .ok (.if_icmp .eq 1027, 3) := by decide +kernel
theorem dL_law_356 : decode cL_law 356 = .ok (.iconst 0, 1) := by decide +kernel
theorem dL_law_357 : decode cL_law 357 = .ok (.ireturn, 1) := by decide +kernel
theorem dL_law_358 : decode cL_law 358 = .ok (.aload_n 1, 1) := by decide +kernel
theorem dL_law_359 : decode cL_law 359 = .ok (.aload_n 0, 1) := by decide +kernel
theorem dL_law_360 : decode cL_law 360 = .ok (.iload_n 3, 1) := by decide +kernel
theorem dL_law_361 : decode cL_law 361 = .ok (.iconst 1, 1) := by decide +kernel
theorem dL_law_362 : decode cL_law 362 = .ok (.iadd, 1) := by decide +kernel
theorem dL_law_363 : decode cL_law 363 = .ok (.iaload, 1) := by decide +kernel
theorem dL_law_364 : decode cL_law 364 = .ok (.invokevirtual 39, 3) := by decide +kernel
theorem dL_law_367 : decode cL_law 367 = .ok (.aload_n 2, 1) := by decide +kernel
theorem dL_law_368 : decode cL_law 368 = .ok (.aload_n 0, 1) := by decide +kernel
theorem dL_law_369 : decode cL_law 369 = .ok (.iload_n 3, 1) := by decide +kernel
theorem dL_law_370 : decode cL_law 370 = .ok (.iconst 1, 1) := by decide +kernel
theorem dL_law_371 : decode cL_law 371 = .ok (.iadd, 1) := by decide +kernel
theorem dL_law_372 : decode cL_law 372 = .ok (.iaload, 1) := by decide +kernel
theorem dL_law_373 : decode cL_law 373 = .ok (.invokevirtual 42, 3) := by decide +kernel
theorem dL_law_376 : decode cL_law 376 = .ok (.if_icmp .eq 1004, 3) := by decide +kernel
theorem dL_law_379 : decode cL_law 379 = .ok (.iconst 0, 1) := by decide +kernel
theorem dL_law_380 : decode cL_law 380 = .ok (.ireturn, 1) := by decide +kernel
theorem dL_law_381 : decode cL_law 381 = .ok (.aload_n 1, 1) := by decide +kernel
theorem dL_law_382 : decode cL_law 382 = .ok (.aload_n 0, 1) := by decide +kernel
theorem dL_law_383 : decode cL_law 383 = .ok (.iload_n 3, 1) := by decide +kernel
theorem dL_law_384 : decode cL_law 384 = .ok (.iconst 1, 1) := by decide +kernel
theorem dL_law_385 : decode cL_law 385 = .ok (.iadd, 1) := by decide +kernel
theorem dL_law_386 : decode cL_law 386 = .ok (.iaload, 1) := by decide +kernel
theorem dL_law_387 : decode cL_law 387 = .ok (.aload_n 0, 1) := by decide +kernel
theorem dL_law_388 : decode cL_law 388 = .ok (.iload_n 3, 1) := by decide +kernel
theorem dL_law_389 : decode cL_law 389 = .ok (.iconst 2, 1) := by decide +kernel
theorem dL_law_390 : decode cL_law 390 = .ok (.iadd, 1) := by decide +kernel
theorem dL_law_391 : decode cL_law 391 = .ok (.iaload, 1) := by decide +kernel
theorem dL_law_392 : decode cL_law 392 = .ok (.invokevirtual 43, 3) := by decide +kernel
theorem dL_law_395 : decode cL_law 395 = .ok (.aload_n 2, 1) := by decide +kernel
theorem dL_law_396 : decode cL_law 396 = .ok (.aload_n 0, 1) := by decide +kernel
theorem dL_law_397 : decode cL_law 397 = .ok (.iload_n 3, 1) := by decide +kernel
theorem dL_law_398 : decode cL_law 398 = .ok (.iconst 1, 1) := by decide +kernel
theorem dL_law_399 : decode cL_law 399 = .ok (.iadd, 1) := by decide +kernel
theorem dL_law_400 : decode cL_law 400 = .ok (.iaload, 1) := by decide +kernel
theorem dL_law_401 : decode cL_law 401 = .ok (.aload_n 0, 1) := by decide +kernel
theorem dL_law_402 : decode cL_law 402 = .ok (.iload_n 3, 1) := by decide +kernel
theorem dL_law_403 : decode cL_law 403 = .ok (.iconst 2, 1) := by decide +kernel
theorem dL_law_404 : decode cL_law 404 = .ok (.iadd, 1) := by decide +kernel
theorem dL_law_405 : decode cL_law 405 = .ok (.iaload, 1) := by decide +kernel
theorem dL_law_406 : decode cL_law 406 = .ok (.invokevirtual 46, 3) := by decide +kernel
theorem dL_law_409 : decode cL_law 409 = .ok (.if_icmp .eq 971, 3) := by decide +kernel
theorem dL_law_412 : decode cL_law 412 = .ok (.iconst 0, 1) := by decide +kernel
theorem dL_law_413 : decode cL_law 413 = .ok (.ireturn, 1) := by decide +kernel
theorem dL_law_414 : decode cL_law 414 = .ok (.aload_n 1, 1) := by decide +kernel
theorem dL_law_415 : decode cL_law 415 = .ok (.aload_n 0, 1) := by decide +kernel
theorem dL_law_416 : decode cL_law 416 = .ok (.iload_n 3, 1) := by decide +kernel
theorem dL_law_417 : decode cL_law 417 = .ok (.iconst 1, 1) := by decide +kernel
theorem dL_law_418 : decode cL_law 418 = .ok (.iadd, 1) := by decide +kernel
theorem dL_law_419 : decode cL_law 419 = .ok (.iaload, 1) := by decide +kernel
theorem dL_law_420 : decode cL_law 420 = .ok (.invokevirtual 47, 3) := by decide +kernel
theorem dL_law_423 : decode cL_law 423 = .ok (.aload_n 2, 1) := by decide +kernel
theorem dL_law_424 : decode cL_law 424 = .ok (.aload_n 0, 1) := by decide +kernel
theorem dL_law_425 : decode cL_law 425 = .ok (.iload_n 3, 1) := by decide +kernel
theorem dL_law_426 : decode cL_law 426 = .ok (.iconst 1, 1) := by decide +kernel
theorem dL_law_427 : decode cL_law 427 = .ok (.iadd, 1) := by decide +kernel
theorem dL_law_428 : decode cL_law 428 = .ok (.iaload, 1) := by decide +kernel
theorem dL_law_429 : decode cL_law 429 = .ok (.invokevirtual 50, 3) := by decide +kernel
theorem dL_law_432 : decode cL_law 432 = .ok (.if_icmp .eq 948, 3) := by decide +kernel
theorem dL_law_435 : decode cL_law 435 = .ok (.iconst 0, 1) := by decide +kernel
theorem dL_law_436 : decode cL_law 436 = .ok (.ireturn, 1) := by decide +kernel
theorem dL_law_437 : decode cL_law 437 = .ok (.aload_n 1, 1) := by decide +kernel
theorem dL_law_438 : decode cL_law 438 = .ok (.aload_n 0, 1) := by decide +kernel
theorem dL_law_439 : decode cL_law 439 = .ok (.iload_n 3, 1) := by decide +kernel
theorem dL_law_440 : decode cL_law 440 = .ok (.iconst 1, 1) := by decide +kernel
theorem dL_law_441 : decode cL_law 441 = .ok (.iadd, 1) := by decide +kernel
theorem dL_law_442 : decode cL_law 442 = .ok (.iaload, 1) := by decide +kernel
theorem dL_law_443 : decode cL_law 443 = .ok (.aload_n 0, 1) := by decide +kernel
theorem dL_law_444 : decode cL_law 444 = .ok (.iload_n 3, 1) := by decide +kernel
theorem dL_law_445 : decode cL_law 445 = .ok (.iconst 2, 1) := by decide +kernel
theorem dL_law_446 : decode cL_law 446 = .ok (.iadd, 1) := by decide +kernel
theorem dL_law_447 : decode cL_law 447 = .ok (.iaload, 1) := by decide +kernel
theorem dL_law_448 : decode cL_law 448 = .ok (.aload_n 0, 1) := by decide +kernel
theorem dL_law_449 : decode cL_law 449 = .ok (.iload_n 3, 1) := by decide +kernel
theorem dL_law_450 : decode cL_law 450 = .ok (.iconst 3, 1) := by decide +kernel
theorem dL_law_451 : decode cL_law 451 = .ok (.iadd, 1) := by decide +kernel
theorem dL_law_452 : decode cL_law 452 = .ok (.iaload, 1) := by decide +kernel
theorem dL_law_453 : decode cL_law 453 = .ok (.invokevirtual 51, 3) := by decide +kernel
theorem dL_law_456 : decode cL_law 456 = .ok (.aload_n 2, 1) := by decide +kernel
theorem dL_law_457 : decode cL_law 457 = .ok (.aload_n 0, 1) := by decide +kernel
theorem dL_law_458 : decode cL_law 458 = .ok (.iload_n 3, 1) := by decide +kernel
theorem dL_law_459 : decode cL_law 459 = .ok (.iconst 1, 1) := by decide +kernel
theorem dL_law_460 : decode cL_law 460 = .ok (.iadd, 1) := by decide +kernel
theorem dL_law_461 : decode cL_law 461 = .ok (.iaload, 1) := by decide +kernel
theorem dL_law_462 : decode cL_law 462 = .ok (.aload_n 0, 1) := by decide +kernel
theorem dL_law_463 : decode cL_law 463 = .ok (.iload_n 3, 1) := by decide +kernel
theorem dL_law_464 : decode cL_law 464 = .ok (.iconst 2, 1) := by decide +kernel
theorem dL_law_465 : decode cL_law 465 = .ok (.iadd, 1) := by decide +kernel
theorem dL_law_466 : decode cL_law 466 = .ok (.iaload, 1) := by decide +kernel
theorem dL_law_467 : decode cL_law 467 = .ok (.aload_n 0, 1) := by decide +kernel
theorem dL_law_468 : decode cL_law 468 = .ok (.iload_n 3, 1) := by decide +kernel
theorem dL_law_469 : decode cL_law 469 = .ok (.iconst 3, 1) := by decide +kernel
theorem dL_law_470 : decode cL_law 470 = .ok (.iadd, 1) := by decide +kernel
theorem dL_law_471 : decode cL_law 471 = .ok (.iaload, 1) := by decide +kernel
theorem dL_law_472 : decode cL_law 472 = .ok (.invokevirtual 55, 3) := by decide +kernel
theorem dL_law_475 : decode cL_law 475 = .ok (.if_icmp .eq 905, 3) := by decide +kernel
theorem dL_law_478 : decode cL_law 478 = .ok (.iconst 0, 1) := by decide +kernel
theorem dL_law_479 : decode cL_law 479 = .ok (.ireturn, 1) := by decide +kernel
theorem dL_law_480 : decode cL_law 480 = .ok (.aload_n 1, 1) := by decide +kernel
theorem dL_law_481 : decode cL_law 481 = .ok (.aload_n 0, 1) := by decide +kernel
theorem dL_law_482 : decode cL_law 482 = .ok (.iload_n 3, 1) := by decide +kernel
theorem dL_law_483 : decode cL_law 483 = .ok (.iconst 1, 1) := by decide +kernel
theorem dL_law_484 : decode cL_law 484 = .ok (.iadd, 1) := by decide +kernel
theorem dL_law_485 : decode cL_law 485 = .ok (.iaload, 1) := by decide +kernel
theorem dL_law_486 : decode cL_law 486 = .ok (.invokevirtual 56, 3) := by decide +kernel
theorem dL_law_489 : decode cL_law 489 = .ok (.aload_n 2, 1) := by decide +kernel
theorem dL_law_490 : decode cL_law 490 = .ok (.aload_n 0, 1) := by decide +kernel
theorem dL_law_491 : decode cL_law 491 = .ok (.iload_n 3, 1) := by decide +kernel
theorem dL_law_492 : decode cL_law 492 = .ok (.iconst 1, 1) := by decide +kernel
theorem dL_law_493 : decode cL_law 493 = .ok (.iadd, 1) := by decide +kernel
theorem dL_law_494 : decode cL_law 494 = .ok (.iaload, 1) := by decide +kernel
theorem dL_law_495 : decode cL_law 495 = .ok (.invokevirtual 59, 3) := by decide +kernel
theorem dL_law_498 : decode cL_law 498 = .ok (.if_icmp .eq 882, 3) := by decide +kernel
theorem dL_law_501 : decode cL_law 501 = .ok (.iconst 0, 1) := by decide +kernel
theorem dL_law_502 : decode cL_law 502 = .ok (.ireturn, 1) := by decide +kernel
theorem dL_law_503 : decode cL_law 503 = .ok (.aload_n 1, 1) := by decide +kernel
theorem dL_law_504 : decode cL_law 504 = .ok (.aload_n 0, 1) := by decide +kernel
theorem dL_law_505 : decode cL_law 505 = .ok (.iload_n 3, 1) := by decide +kernel
theorem dL_law_506 : decode cL_law 506 = .ok (.iconst 1, 1) := by decide +kernel
theorem dL_law_507 : decode cL_law 507 = .ok (.iadd, 1) := by decide +kernel
theorem dL_law_508 : decode cL_law 508 = .ok (.iaload, 1) := by decide +kernel
theorem dL_law_509 : decode cL_law 509 = .ok (.invokevirtual 60, 3) := by decide +kernel
theorem dL_law_512 : decode cL_law 512 = .ok (.aload_n 2, 1) := by decide +kernel
theorem dL_law_513 : decode cL_law 513 = .ok (.aload_n 0, 1) := by decide +kernel
theorem dL_law_514 : decode cL_law 514 = .ok (.iload_n 3, 1) := by decide +kernel
theorem dL_law_515 : decode cL_law 515 = .ok (.iconst 1, 1) := by decide +kernel
theorem dL_law_516 : decode cL_law 516 = .ok (.iadd, 1) := by decide +kernel
theorem dL_law_517 : decode cL_law 517 = .ok (.iaload, 1) := by decide +kernel
theorem dL_law_518 : decode cL_law 518 = .ok (.invokevirtual 63, 3) := by decide +kernel
theorem dL_law_521 : decode cL_law 521 = .ok (.if_icmp .eq 859, 3) := by decide +kernel
theorem dL_law_524 : decode cL_law 524 = .ok (.iconst 0, 1) := by decide +kernel
theorem dL_law_525 : decode cL_law 525 = .ok (.ireturn, 1) := by decide +kernel
theorem dL_law_526 : decode cL_law 526 = .ok (.aload_n 1, 1) := by decide +kernel
theorem dL_law_527 : decode cL_law 527 = .ok (.aload_n 0, 1) := by decide +kernel
theorem dL_law_528 : decode cL_law 528 = .ok (.iload_n 3, 1) := by decide +kernel
theorem dL_law_529 : decode cL_law 529 = .ok (.iconst 1, 1) := by decide +kernel
theorem dL_law_530 : decode cL_law 530 = .ok (.iadd, 1) := by decide +kernel
theorem dL_law_531 : decode cL_law 531 = .ok (.iaload, 1) := by decide +kernel
theorem dL_law_532 : decode cL_law 532 = .ok (.i2l, 1) := by decide +kernel
theorem dL_law_533 : decode cL_law 533 = .ok (.bipush 32, 2) := by decide +kernel
theorem dL_law_535 : decode cL_law 535 = .ok (.lshl, 1) := by decide +kernel
theorem dL_law_536 : decode cL_law 536 = .ok (.aload_n 0, 1) := by decide +kernel
theorem dL_law_537 : decode cL_law 537 = .ok (.iload_n 3, 1) := by decide +kernel
theorem dL_law_538 : decode cL_law 538 = .ok (.iconst 2, 1) := by decide +kernel
theorem dL_law_539 : decode cL_law 539 = .ok (.iadd, 1) := by decide +kernel
theorem dL_law_540 : decode cL_law 540 = .ok (.iaload, 1) := by decide +kernel
theorem dL_law_541 : decode cL_law 541 = .ok (.i2l, 1) := by decide +kernel
theorem dL_law_542 : decode cL_law 542 = .ok (.ldc2_w 64, 3) := by decide +kernel
theorem dL_law_545 : decode cL_law 545 = .ok (.land, 1) := by decide +kernel
theorem dL_law_546 : decode cL_law 546 = .ok (.lor, 1) := by decide +kernel
theorem dL_law_547 : decode cL_law 547 = .ok (.aload_n 0, 1) := by decide +kernel
theorem dL_law_548 : decode cL_law 548 = .ok (.iload_n 3, 1) := by decide +kernel
theorem dL_law_549 : decode cL_law 549 = .ok (.iconst 3, 1) := by decide +kernel
theorem dL_law_550 : decode cL_law 550 = .ok (.iadd, 1) := by decide +kernel
theorem dL_law_551 : decode cL_law 551 = .ok (.iaload, 1) := by decide +kernel
theorem dL_law_552 : decode cL_law 552 = .ok (.invokevirtual 66, 3) := by decide +kernel
theorem dL_law_555 : decode cL_law 555 = .ok (.aload_n 2, 1) := by decide +kernel
theorem dL_law_556 : decode cL_law 556 = .ok (.aload_n 0, 1) := by decide +kernel
theorem dL_law_557 : decode cL_law 557 = .ok (.iload_n 3, 1) := by decide +kernel
theorem dL_law_558 : decode cL_law 558 = .ok (.iconst 1, 1) := by decide +kernel
theorem dL_law_559 : decode cL_law 559 = .ok (.iadd, 1) := by decide +kernel
theorem dL_law_560 : decode cL_law 560 = .ok (.iaload, 1) := by decide +kernel
theorem dL_law_561 : decode cL_law 561 = .ok (.i2l, 1) := by decide +kernel
theorem dL_law_562 : decode cL_law 562 = .ok (.bipush 32, 2) := by decide +kernel
theorem dL_law_564 : decode cL_law 564 = .ok (.lshl, 1) := by decide +kernel
theorem dL_law_565 : decode cL_law 565 = .ok (.aload_n 0, 1) := by decide +kernel
theorem dL_law_566 : decode cL_law 566 = .ok (.iload_n 3, 1) := by decide +kernel
theorem dL_law_567 : decode cL_law 567 = .ok (.iconst 2, 1) := by decide +kernel
theorem dL_law_568 : decode cL_law 568 = .ok (.iadd, 1) := by decide +kernel
theorem dL_law_569 : decode cL_law 569 = .ok (.iaload, 1) := by decide +kernel
theorem dL_law_570 : decode cL_law 570 = .ok (.i2l, 1) := by decide +kernel
theorem dL_law_571 : decode cL_law 571 = .ok (.ldc2_w 64, 3) := by decide +kernel
theorem dL_law_574 : decode cL_law 574 = .ok (.land, 1) := by decide +kernel
theorem dL_law_575 : decode cL_law 575 = .ok (.lor, 1) := by decide +kernel
theorem dL_law_576 : decode cL_law 576 = .ok (.aload_n 0, 1) := by decide +kernel
theorem dL_law_577 : decode cL_law 577 = .ok (.iload_n 3, 1) := by decide +kernel
theorem dL_law_578 : decode cL_law 578 = .ok (.iconst 3, 1) := by decide +kernel
theorem dL_law_579 : decode cL_law 579 = .ok (.iadd, 1) := by decide +kernel
theorem dL_law_580 : decode cL_law 580 = .ok (.iaload, 1) := by decide +kernel
theorem dL_law_581 : decode cL_law 581 = .ok (.invokevirtual 70, 3) := by decide +kernel
theorem dL_law_584 : decode cL_law 584 = .ok (.if_icmp .eq 796, 3) := by decide +kernel
theorem dL_law_587 : decode cL_law 587 = .ok (.iconst 0, 1) := by decide +kernel
theorem dL_law_588 : decode cL_law 588 = .ok (.ireturn, 1) := by decide +kernel
theorem dL_law_589 : decode cL_law 589 = .ok (.aload_n 1, 1) := by decide +kernel
theorem dL_law_590 : decode cL_law 590 = .ok (.invokevirtual 71, 3) := by decide +kernel
theorem dL_law_593 : decode cL_law 593 = .ok (.aload_n 2, 1) := by decide +kernel
theorem dL_law_594 : decode cL_law 594 = .ok (.invokevirtual 75, 3) := by decide +kernel
theorem dL_law_597 : decode cL_law 597 = .ok (.if_icmp .eq 783, 3) := by decide +kernel
theorem dL_law_600 : decode cL_law 600 = .ok (.iconst 0, 1) := by decide +kernel
theorem dL_law_601 : decode cL_law 601 = .ok (.ireturn, 1) := by decide +kernel
theorem dL_law_602 : decode cL_law 602 = .ok (.aload_n 1, 1) := by decide +kernel
theorem dL_law_603 : decode cL_law 603 = .ok (.invokevirtual 76, 3) := by decide +kernel
theorem dL_law_606 : decode cL_law 606 = .ok (.aload_n 2, 1) := by decide +kernel
theorem dL_law_607 : decode cL_law 607 = .ok (.invokevirtual 79, 3) := by decide +kernel
theorem dL_law_610 : decode cL_law 610 = .ok (.if_icmp .eq 770, 3) := by decide +kernel
theorem dL_law_613 : decode cL_law 613 = .ok (.iconst 0, 1) := by decide +kernel
theorem dL_law_614 : decode cL_law 614 = .ok (.ireturn, 1) := by decide +kernel
theorem dL_law_615 : decode cL_law 615 = .ok (.aload_n 1, 1) := by decide +kernel
theorem dL_law_616 : decode cL_law 616 = .ok (.aload_n 0, 1) := by decide +kernel
theorem dL_law_617 : decode cL_law 617 = .ok (.iload_n 3, 1) := by decide +kernel
theorem dL_law_618 : decode cL_law 618 = .ok (.iconst 1, 1) := by decide +kernel
theorem dL_law_619 : decode cL_law 619 = .ok (.iadd, 1) := by decide +kernel
theorem dL_law_620 : decode cL_law 620 = .ok (.iaload, 1) := by decide +kernel
theorem dL_law_621 : decode cL_law 621 = .ok (.aload_n 0, 1) := by decide +kernel
theorem dL_law_622 : decode cL_law 622 = .ok (.iload_n 3, 1) := by decide +kernel
theorem dL_law_623 : decode cL_law 623 = .ok (.iconst 2, 1) := by decide +kernel
theorem dL_law_624 : decode cL_law 624 = .ok (.iadd, 1) := by decide +kernel
theorem dL_law_625 : decode cL_law 625 = .ok (.iaload, 1) := by decide +kernel
theorem dL_law_626 : decode cL_law 626 = .ok (.invokevirtual 80, 3) := by decide +kernel
theorem dL_law_629 : decode cL_law 629 = .ok (.aload_n 2, 1) := by decide +kernel
theorem dL_law_630 : decode cL_law 630 = .ok (.aload_n 0, 1) := by decide +kernel
theorem dL_law_631 : decode cL_law 631 = .ok (.iload_n 3, 1) := by decide +kernel
theorem dL_law_632 : decode cL_law 632 = .ok (.iconst 1, 1) := by decide +kernel
theorem dL_law_633 : decode cL_law 633 = .ok (.iadd, 1) := by decide +kernel
theorem dL_law_634 : decode cL_law 634 = .ok (.iaload, 1) := by decide +kernel
theorem dL_law_635 : decode cL_law 635 = .ok (.aload_n 0, 1) := by decide +kernel
theorem dL_law_636 : decode cL_law 636 = .ok (.iload_n 3, 1) := by decide +kernel
theorem dL_law_637 : decode cL_law 637 = .ok (.iconst 2, 1) := by decide +kernel
theorem dL_law_638 : decode cL_law 638 = .ok (.iadd, 1) := by decide +kernel
theorem dL_law_639 : decode cL_law 639 = .ok (.iaload, 1) := by decide +kernel
theorem dL_law_640 : decode cL_law 640 = .ok (.invokevirtual 83, 3) := by decide +kernel
theorem dL_law_643 : decode cL_law 643 = .ok (.if_icmp .eq 737, 3) := by decide +kernel
theorem dL_law_646 : decode cL_law 646 = .ok (.iconst 0, 1) := by decide +kernel
theorem dL_law_647 : decode cL_law 647 = .ok (.ireturn, 1) := by decide +kernel
theorem dL_law_648 : decode cL_law 648 = .ok (.aload_n 1, 1) := by decide +kernel
theorem dL_law_649 : decode cL_law 649 = .ok (.aload_n 0, 1) := by decide +kernel
theorem dL_law_650 : decode cL_law 650 = .ok (.iload_n 3, 1) := by decide +kernel
theorem dL_law_651 : decode cL_law 651 = .ok (.iconst 1, 1) := by decide +kernel
theorem dL_law_652 : decode cL_law 652 = .ok (.iadd, 1) := by decide +kernel
theorem dL_law_653 : decode cL_law 653 = .ok (.iaload, 1) := by decide +kernel
theorem dL_law_654 : decode cL_law 654 = .ok (.aload_n 0, 1) := by decide +kernel
theorem dL_law_655 : decode cL_law 655 = .ok (.iload_n 3, 1) := by decide +kernel
theorem dL_law_656 : decode cL_law 656 = .ok (.iconst 2, 1) := by decide +kernel
theorem dL_law_657 : decode cL_law 657 = .ok (.iadd, 1) := by decide +kernel
theorem dL_law_658 : decode cL_law 658 = .ok (.iaload, 1) := by decide +kernel
theorem dL_law_659 : decode cL_law 659 = .ok (.invokevirtual 84, 3) := by decide +kernel
theorem dL_law_662 : decode cL_law 662 = .ok (.aload_n 2, 1) := by decide +kernel
theorem dL_law_663 : decode cL_law 663 = .ok (.aload_n 0, 1) := by decide +kernel
theorem dL_law_664 : decode cL_law 664 = .ok (.iload_n 3, 1) := by decide +kernel
theorem dL_law_665 : decode cL_law 665 = .ok (.iconst 1, 1) := by decide +kernel
theorem dL_law_666 : decode cL_law 666 = .ok (.iadd, 1) := by decide +kernel
theorem dL_law_667 : decode cL_law 667 = .ok (.iaload, 1) := by decide +kernel
theorem dL_law_668 : decode cL_law 668 = .ok (.aload_n 0, 1) := by decide +kernel
theorem dL_law_669 : decode cL_law 669 = .ok (.iload_n 3, 1) := by decide +kernel
theorem dL_law_670 : decode cL_law 670 = .ok (.iconst 2, 1) := by decide +kernel
theorem dL_law_671 : decode cL_law 671 = .ok (.iadd, 1) := by decide +kernel
theorem dL_law_672 : decode cL_law 672 = .ok (.iaload, 1) := by decide +kernel
theorem dL_law_673 : decode cL_law 673 = .ok (.invokevirtual 87, 3) := by decide +kernel
theorem dL_law_676 : decode cL_law 676 = .ok (.if_icmp .eq 704, 3) := by decide +kernel
theorem dL_law_679 : decode cL_law 679 = .ok (.iconst 0, 1) := by decide +kernel
theorem dL_law_680 : decode cL_law 680 = .ok (.ireturn, 1) := by decide +kernel
theorem dL_law_681 : decode cL_law 681 = .ok (.aload_n 1, 1) := by decide +kernel
theorem dL_law_682 : decode cL_law 682 = .ok (.aload_n 0, 1) := by decide +kernel
theorem dL_law_683 : decode cL_law 683 = .ok (.iload_n 3, 1) := by decide +kernel
theorem dL_law_684 : decode cL_law 684 = .ok (.iconst 1, 1) := by decide +kernel
theorem dL_law_685 : decode cL_law 685 = .ok (.iadd, 1) := by decide +kernel
theorem dL_law_686 : decode cL_law 686 = .ok (.iaload, 1) := by decide +kernel
theorem dL_law_687 : decode cL_law 687 = .ok (.aload_n 0, 1) := by decide +kernel
theorem dL_law_688 : decode cL_law 688 = .ok (.iload_n 3, 1) := by decide +kernel
theorem dL_law_689 : decode cL_law 689 = .ok (.iconst 2, 1) := by decide +kernel
theorem dL_law_690 : decode cL_law 690 = .ok (.iadd, 1) := by decide +kernel
theorem dL_law_691 : decode cL_law 691 = .ok (.iaload, 1) := by decide +kernel
theorem dL_law_692 : decode cL_law 692 = .ok (.aload_n 0, 1) := by decide +kernel
theorem dL_law_693 : decode cL_law 693 = .ok (.iload_n 3, 1) := by decide +kernel
theorem dL_law_694 : decode cL_law 694 = .ok (.iconst 3, 1) := by decide +kernel
theorem dL_law_695 : decode cL_law 695 = .ok (.iadd, 1) := by decide +kernel
theorem dL_law_696 : decode cL_law 696 = .ok (.iaload, 1) := by decide +kernel
theorem dL_law_697 : decode cL_law 697 = .ok (.ifCond .eq 7, 3) := by decide +kernel
theorem dL_law_700 : decode cL_law 700 = .ok (.iconst 1, 1) := by decide +kernel
theorem dL_law_701 : decode cL_law 701 = .ok (.goto 4, 3) := by decide +kernel
theorem dL_law_704 : decode cL_law 704 = .ok (.iconst 0, 1) := by decide +kernel
theorem dL_law_705 : decode cL_law 705 = .ok (.invokevirtual 88, 3) := by decide +kernel
theorem dL_law_708 : decode cL_law 708 = .ok (.aload_n 2, 1) := by decide +kernel
theorem dL_law_709 : decode cL_law 709 = .ok (.aload_n 0, 1) := by decide +kernel
theorem dL_law_710 : decode cL_law 710 = .ok (.iload_n 3, 1) := by decide +kernel
theorem dL_law_711 : decode cL_law 711 = .ok (.iconst 1, 1) := by decide +kernel
theorem dL_law_712 : decode cL_law 712 = .ok (.iadd, 1) := by decide +kernel
theorem dL_law_713 : decode cL_law 713 = .ok (.iaload, 1) := by decide +kernel
theorem dL_law_714 : decode cL_law 714 = .ok (.aload_n 0, 1) := by decide +kernel
theorem dL_law_715 : decode cL_law 715 = .ok (.iload_n 3, 1) := by decide +kernel
theorem dL_law_716 : decode cL_law 716 = .ok (.iconst 2, 1) := by decide +kernel
theorem dL_law_717 : decode cL_law 717 = .ok (.iadd, 1) := by decide +kernel
theorem dL_law_718 : decode cL_law 718 = .ok (.iaload, 1) := by decide +kernel
theorem dL_law_719 : decode cL_law 719 = .ok (.aload_n 0, 1) := by decide +kernel
theorem dL_law_720 : decode cL_law 720 = .ok (.iload_n 3, 1) := by decide +kernel
theorem dL_law_721 : decode cL_law 721 = .ok (.iconst 3, 1) := by decide +kernel
theorem dL_law_722 : decode cL_law 722 = .ok (.iadd, 1) := by decide +kernel
theorem dL_law_723 : decode cL_law 723 = .ok (.iaload, 1) := by decide +kernel
theorem dL_law_724 : decode cL_law 724 = .ok (.ifCond .eq 7, 3) := by decide +kernel
theorem dL_law_727 : decode cL_law 727 = .ok (.iconst 1, 1) := by decide +kernel
theorem dL_law_728 : decode cL_law 728 = .ok (.goto 4, 3) := by decide +kernel
theorem dL_law_731 : decode cL_law 731 = .ok (.iconst 0, 1) := by decide +kernel
theorem dL_law_732 : decode cL_law 732 = .ok (.invokevirtual 92, 3) := by decide +kernel
theorem dL_law_735 : decode cL_law 735 = .ok (.if_icmp .eq 645, 3) := by decide +kernel
theorem dL_law_738 : decode cL_law 738 = .ok (.iconst 0, 1) := by decide +kernel
theorem dL_law_739 : decode cL_law 739 = .ok (.ireturn, 1) := by decide +kernel
theorem dL_law_740 : decode cL_law 740 = .ok (.aload_n 1, 1) := by decide +kernel
theorem dL_law_741 : decode cL_law 741 = .ok (.aload_n 0, 1) := by decide +kernel
theorem dL_law_742 : decode cL_law 742 = .ok (.iload_n 3, 1) := by decide +kernel
theorem dL_law_743 : decode cL_law 743 = .ok (.iconst 1, 1) := by decide +kernel
theorem dL_law_744 : decode cL_law 744 = .ok (.iadd, 1) := by decide +kernel
theorem dL_law_745 : decode cL_law 745 = .ok (.iaload, 1) := by decide +kernel
theorem dL_law_746 : decode cL_law 746 = .ok (.invokevirtual 93, 3) := by decide +kernel
theorem dL_law_749 : decode cL_law 749 = .ok (.aload_n 2, 1) := by decide +kernel
theorem dL_law_750 : decode cL_law 750 = .ok (.aload_n 0, 1) := by decide +kernel
theorem dL_law_751 : decode cL_law 751 = .ok (.iload_n 3, 1) := by decide +kernel
theorem dL_law_752 : decode cL_law 752 = .ok (.iconst 1, 1) := by decide +kernel
theorem dL_law_753 : decode cL_law 753 = .ok (.iadd, 1) := by decide +kernel
theorem dL_law_754 : decode cL_law 754 = .ok (.iaload, 1) := by decide +kernel
theorem dL_law_755 : decode cL_law 755 = .ok (.invokevirtual 96, 3) := by decide +kernel
theorem dL_law_758 : decode cL_law 758 = .ok (.if_icmp .eq 622, 3) := by decide +kernel
theorem dL_law_761 : decode cL_law 761 = .ok (.iconst 0, 1) := by decide +kernel
theorem dL_law_762 : decode cL_law 762 = .ok (.ireturn, 1) := by decide +kernel
theorem dL_law_763 : decode cL_law 763 = .ok (.aload_n 1, 1) := by decide +kernel
theorem dL_law_764 : decode cL_law 764 = .ok (.aload_n 0, 1) := by decide +kernel
theorem dL_law_765 : decode cL_law 765 = .ok (.iload_n 3, 1) := by decide +kernel
theorem dL_law_766 : decode cL_law 766 = .ok (.iconst 1, 1) := by decide +kernel
theorem dL_law_767 : decode cL_law 767 = .ok (.iadd, 1) := by decide +kernel
theorem dL_law_768 : decode cL_law 768 = .ok (.iaload, 1) := by decide +kernel
theorem dL_law_769 : decode cL_law 769 = .ok (.aload_n 0, 1) := by decide +kernel
theorem dL_law_770 : decode cL_law 770 = .ok (.iload_n 3, 1) := by decide +kernel
theorem dL_law_771 : decode cL_law 771 = .ok (.iconst 2, 1) := by decide +kernel
theorem dL_law_772 : decode cL_law 772 = .ok (.iadd, 1) := by decide +kernel
theorem dL_law_773 : decode cL_law 773 = .ok (.iaload, 1) := by decide +kernel
theorem dL_law_774 : decode cL_law 774 = .ok (.invokevirtual 97, 3) := by decide +kernel
theorem dL_law_777 : decode cL_law 777 = .ok (.aload_n 2, 1) := by decide +kernel
theorem dL_law_778 : decode cL_law 778 = .ok (.aload_n 0, 1) := by decide +kernel
theorem dL_law_779 : decode cL_law 779 = .ok (.iload_n 3, 1) := by decide +kernel
theorem dL_law_780 : decode cL_law 780 = .ok (.iconst 1, 1) := by decide +kernel
theorem dL_law_781 : decode cL_law 781 = .ok (.iadd, 1) := by decide +kernel
theorem dL_law_782 : decode cL_law 782 = .ok (.iaload, 1) := by decide +kernel
theorem dL_law_783 : decode cL_law 783 = .ok (.aload_n 0, 1) := by decide +kernel
theorem dL_law_784 : decode cL_law 784 = .ok (.iload_n 3, 1) := by decide +kernel
theorem dL_law_785 : decode cL_law 785 = .ok (.iconst 2, 1) := by decide +kernel
theorem dL_law_786 : decode cL_law 786 = .ok (.iadd, 1) := by decide +kernel
theorem dL_law_787 : decode cL_law 787 = .ok (.iaload, 1) := by decide +kernel
theorem dL_law_788 : decode cL_law 788 = .ok (.invokevirtual 100, 3) := by decide +kernel
theorem dL_law_791 : decode cL_law 791 = .ok (.if_icmp .eq 589, 3) := by decide +kernel
theorem dL_law_794 : decode cL_law 794 = .ok (.iconst 0, 1) := by decide +kernel
theorem dL_law_795 : decode cL_law 795 = .ok (.ireturn, 1) := by decide +kernel
theorem dL_law_796 : decode cL_law 796 = .ok (.aload_n 1, 1) := by decide +kernel
theorem dL_law_797 : decode cL_law 797 = .ok (.aload_n 0, 1) := by decide +kernel
theorem dL_law_798 : decode cL_law 798 = .ok (.iload_n 3, 1) := by decide +kernel
theorem dL_law_799 : decode cL_law 799 = .ok (.iconst 1, 1) := by decide +kernel
theorem dL_law_800 : decode cL_law 800 = .ok (.iadd, 1) := by decide +kernel
theorem dL_law_801 : decode cL_law 801 = .ok (.iaload, 1) := by decide +kernel
theorem dL_law_802 : decode cL_law 802 = .ok (.invokevirtual 101, 3) := by decide +kernel
theorem dL_law_805 : decode cL_law 805 = .ok (.aload_n 2, 1) := by decide +kernel
theorem dL_law_806 : decode cL_law 806 = .ok (.aload_n 0, 1) := by decide +kernel
theorem dL_law_807 : decode cL_law 807 = .ok (.iload_n 3, 1) := by decide +kernel
theorem dL_law_808 : decode cL_law 808 = .ok (.iconst 1, 1) := by decide +kernel
theorem dL_law_809 : decode cL_law 809 = .ok (.iadd, 1) := by decide +kernel
theorem dL_law_810 : decode cL_law 810 = .ok (.iaload, 1) := by decide +kernel
theorem dL_law_811 : decode cL_law 811 = .ok (.invokevirtual 104, 3) := by decide +kernel
theorem dL_law_814 : decode cL_law 814 = .ok (.if_icmp .eq 566, 3) := by decide +kernel
theorem dL_law_817 : decode cL_law 817 = .ok (.iconst 0, 1) := by decide +kernel
theorem dL_law_818 : decode cL_law 818 = .ok (.ireturn, 1) := by decide +kernel
theorem dL_law_819 : decode cL_law 819 = .ok (.aload_n 1, 1) := by decide +kernel
theorem dL_law_820 : decode cL_law 820 = .ok (.aload_n 0, 1) := by decide +kernel
theorem dL_law_821 : decode cL_law 821 = .ok (.iload_n 3, 1) := by decide +kernel
theorem dL_law_822 : decode cL_law 822 = .ok (.iconst 1, 1) := by decide +kernel
theorem dL_law_823 : decode cL_law 823 = .ok (.iadd, 1) := by decide +kernel
theorem dL_law_824 : decode cL_law 824 = .ok (.iaload, 1) := by decide +kernel
theorem dL_law_825 : decode cL_law 825 = .ok (.aload_n 0, 1) := by decide +kernel
theorem dL_law_826 : decode cL_law 826 = .ok (.iload_n 3, 1) := by decide +kernel
theorem dL_law_827 : decode cL_law 827 = .ok (.iconst 2, 1) := by decide +kernel
theorem dL_law_828 : decode cL_law 828 = .ok (.iadd, 1) := by decide +kernel
theorem dL_law_829 : decode cL_law 829 = .ok (.iaload, 1) := by decide +kernel
theorem dL_law_830 : decode cL_law 830 = .ok (.invokevirtual 105, 3) := by decide +kernel
theorem dL_law_833 : decode cL_law 833 = .ok (.aload_n 2, 1) := by decide +kernel
theorem dL_law_834 : decode cL_law 834 = .ok (.aload_n 0, 1) := by decide +kernel
theorem dL_law_835 : decode cL_law 835 = .ok (.iload_n 3, 1) := by decide +kernel
theorem dL_law_836 : decode cL_law 836 = .ok (.iconst 1, 1) := by decide +kernel
theorem dL_law_837 : decode cL_law 837 = .ok (.iadd, 1) := by decide +kernel
theorem dL_law_838 : decode cL_law 838 = .ok (.iaload, 1) := by decide +kernel
theorem dL_law_839 : decode cL_law 839 = .ok (.aload_n 0, 1) := by decide +kernel
theorem dL_law_840 : decode cL_law 840 = .ok (.iload_n 3, 1) := by decide +kernel
theorem dL_law_841 : decode cL_law 841 = .ok (.iconst 2, 1) := by decide +kernel
theorem dL_law_842 : decode cL_law 842 = .ok (.iadd, 1) := by decide +kernel
theorem dL_law_843 : decode cL_law 843 = .ok (.iaload, 1) := by decide +kernel
theorem dL_law_844 : decode cL_law 844 = .ok (.invokevirtual 108, 3) := by decide +kernel
theorem dL_law_847 : decode cL_law 847 = .ok (.if_icmp .eq 533, 3) := by decide +kernel
theorem dL_law_850 : decode cL_law 850 = .ok (.iconst 0, 1) := by decide +kernel
theorem dL_law_851 : decode cL_law 851 = .ok (.ireturn, 1) := by decide +kernel
theorem dL_law_852 : decode cL_law 852 = .ok (.aload_n 1, 1) := by decide +kernel
theorem dL_law_853 : decode cL_law 853 = .ok (.aload_n 0, 1) := by decide +kernel
theorem dL_law_854 : decode cL_law 854 = .ok (.iload_n 3, 1) := by decide +kernel
theorem dL_law_855 : decode cL_law 855 = .ok (.iconst 1, 1) := by decide +kernel
theorem dL_law_856 : decode cL_law 856 = .ok (.iadd, 1) := by decide +kernel
theorem dL_law_857 : decode cL_law 857 = .ok (.iaload, 1) := by decide +kernel
theorem dL_law_858 : decode cL_law 858 = .ok (.aload_n 0, 1) := by decide +kernel
theorem dL_law_859 : decode cL_law 859 = .ok (.iload_n 3, 1) := by decide +kernel
theorem dL_law_860 : decode cL_law 860 = .ok (.iconst 2, 1) := by decide +kernel
theorem dL_law_861 : decode cL_law 861 = .ok (.iadd, 1) := by decide +kernel
theorem dL_law_862 : decode cL_law 862 = .ok (.iaload, 1) := by decide +kernel
theorem dL_law_863 : decode cL_law 863 = .ok (.invokevirtual 109, 3) := by decide +kernel
theorem dL_law_866 : decode cL_law 866 = .ok (.aload_n 2, 1) := by decide +kernel
theorem dL_law_867 : decode cL_law 867 = .ok (.aload_n 0, 1) := by decide +kernel
theorem dL_law_868 : decode cL_law 868 = .ok (.iload_n 3, 1) := by decide +kernel
theorem dL_law_869 : decode cL_law 869 = .ok (.iconst 1, 1) := by decide +kernel
theorem dL_law_870 : decode cL_law 870 = .ok (.iadd, 1) := by decide +kernel
theorem dL_law_871 : decode cL_law 871 = .ok (.iaload, 1) := by decide +kernel
theorem dL_law_872 : decode cL_law 872 = .ok (.aload_n 0, 1) := by decide +kernel
theorem dL_law_873 : decode cL_law 873 = .ok (.iload_n 3, 1) := by decide +kernel
theorem dL_law_874 : decode cL_law 874 = .ok (.iconst 2, 1) := by decide +kernel
theorem dL_law_875 : decode cL_law 875 = .ok (.iadd, 1) := by decide +kernel
theorem dL_law_876 : decode cL_law 876 = .ok (.iaload, 1) := by decide +kernel
theorem dL_law_877 : decode cL_law 877 = .ok (.invokevirtual 112, 3) := by decide +kernel
theorem dL_law_880 : decode cL_law 880 = .ok (.if_icmp .eq 500, 3) := by decide +kernel
theorem dL_law_883 : decode cL_law 883 = .ok (.iconst 0, 1) := by decide +kernel
theorem dL_law_884 : decode cL_law 884 = .ok (.ireturn, 1) := by decide +kernel
theorem dL_law_885 : decode cL_law 885 = .ok (.aload_n 1, 1) := by decide +kernel
theorem dL_law_886 : decode cL_law 886 = .ok (.aload_n 0, 1) := by decide +kernel
theorem dL_law_887 : decode cL_law 887 = .ok (.iload_n 3, 1) := by decide +kernel
theorem dL_law_888 : decode cL_law 888 = .ok (.iconst 1, 1) := by decide +kernel
theorem dL_law_889 : decode cL_law 889 = .ok (.iadd, 1) := by decide +kernel
theorem dL_law_890 : decode cL_law 890 = .ok (.iaload, 1) := by decide +kernel
theorem dL_law_891 : decode cL_law 891 = .ok (.aload_n 0, 1) := by decide +kernel
theorem dL_law_892 : decode cL_law 892 = .ok (.iload_n 3, 1) := by decide +kernel
theorem dL_law_893 : decode cL_law 893 = .ok (.iconst 2, 1) := by decide +kernel
theorem dL_law_894 : decode cL_law 894 = .ok (.iadd, 1) := by decide +kernel
theorem dL_law_895 : decode cL_law 895 = .ok (.iaload, 1) := by decide +kernel
theorem dL_law_896 : decode cL_law 896 = .ok (.invokevirtual 113, 3) := by decide +kernel
theorem dL_law_899 : decode cL_law 899 = .ok (.aload_n 2, 1) := by decide +kernel
theorem dL_law_900 : decode cL_law 900 = .ok (.aload_n 0, 1) := by decide +kernel
theorem dL_law_901 : decode cL_law 901 = .ok (.iload_n 3, 1) := by decide +kernel
theorem dL_law_902 : decode cL_law 902 = .ok (.iconst 1, 1) := by decide +kernel
theorem dL_law_903 : decode cL_law 903 = .ok (.iadd, 1) := by decide +kernel
theorem dL_law_904 : decode cL_law 904 = .ok (.iaload, 1) := by decide +kernel
theorem dL_law_905 : decode cL_law 905 = .ok (.aload_n 0, 1) := by decide +kernel
theorem dL_law_906 : decode cL_law 906 = .ok (.iload_n 3, 1) := by decide +kernel
theorem dL_law_907 : decode cL_law 907 = .ok (.iconst 2, 1) := by decide +kernel
theorem dL_law_908 : decode cL_law 908 = .ok (.iadd, 1) := by decide +kernel
theorem dL_law_909 : decode cL_law 909 = .ok (.iaload, 1) := by decide +kernel
theorem dL_law_910 : decode cL_law 910 = .ok (.invokevirtual 116, 3) := by decide +kernel
theorem dL_law_913 : decode cL_law 913 = .ok (.if_icmp .eq 467, 3) := by decide +kernel
theorem dL_law_916 : decode cL_law 916 = .ok (.iconst 0, 1) := by decide +kernel
theorem dL_law_917 : decode cL_law 917 = .ok (.ireturn, 1) := by decide +kernel
theorem dL_law_918 : decode cL_law 918 = .ok (.aload_n 1, 1) := by decide +kernel
theorem dL_law_919 : decode cL_law 919 = .ok (.aload_n 0, 1) := by decide +kernel
theorem dL_law_920 : decode cL_law 920 = .ok (.iload_n 3, 1) := by decide +kernel
theorem dL_law_921 : decode cL_law 921 = .ok (.iconst 1, 1) := by decide +kernel
theorem dL_law_922 : decode cL_law 922 = .ok (.iadd, 1) := by decide +kernel
theorem dL_law_923 : decode cL_law 923 = .ok (.iaload, 1) := by decide +kernel
theorem dL_law_924 : decode cL_law 924 = .ok (.invokevirtual 117, 3) := by decide +kernel
theorem dL_law_927 : decode cL_law 927 = .ok (.aload_n 2, 1) := by decide +kernel
theorem dL_law_928 : decode cL_law 928 = .ok (.aload_n 0, 1) := by decide +kernel
theorem dL_law_929 : decode cL_law 929 = .ok (.iload_n 3, 1) := by decide +kernel
theorem dL_law_930 : decode cL_law 930 = .ok (.iconst 1, 1) := by decide +kernel
theorem dL_law_931 : decode cL_law 931 = .ok (.iadd, 1) := by decide +kernel
theorem dL_law_932 : decode cL_law 932 = .ok (.iaload, 1) := by decide +kernel
theorem dL_law_933 : decode cL_law 933 = .ok (.invokevirtual 120, 3) := by decide +kernel
theorem dL_law_936 : decode cL_law 936 = .ok (.if_icmp .eq 444, 3) := by decide +kernel
theorem dL_law_939 : decode cL_law 939 = .ok (.iconst 0, 1) := by decide +kernel
theorem dL_law_940 : decode cL_law 940 = .ok (.ireturn, 1) := by decide +kernel
theorem dL_law_941 : decode cL_law 941 = .ok (.aload_n 1, 1) := by decide +kernel
theorem dL_law_942 : decode cL_law 942 = .ok (.aload_n 0, 1) := by decide +kernel
theorem dL_law_943 : decode cL_law 943 = .ok (.iload_n 3, 1) := by decide +kernel
theorem dL_law_944 : decode cL_law 944 = .ok (.iconst 1, 1) := by decide +kernel
theorem dL_law_945 : decode cL_law 945 = .ok (.iadd, 1) := by decide +kernel
theorem dL_law_946 : decode cL_law 946 = .ok (.iaload, 1) := by decide +kernel
theorem dL_law_947 : decode cL_law 947 = .ok (.aload_n 0, 1) := by decide +kernel
theorem dL_law_948 : decode cL_law 948 = .ok (.iload_n 3, 1) := by decide +kernel
theorem dL_law_949 : decode cL_law 949 = .ok (.iconst 2, 1) := by decide +kernel
theorem dL_law_950 : decode cL_law 950 = .ok (.iadd, 1) := by decide +kernel
theorem dL_law_951 : decode cL_law 951 = .ok (.iaload, 1) := by decide +kernel
theorem dL_law_952 : decode cL_law 952 = .ok (.invokevirtual 121, 3) := by decide +kernel
theorem dL_law_955 : decode cL_law 955 = .ok (.aload_n 2, 1) := by decide +kernel
theorem dL_law_956 : decode cL_law 956 = .ok (.aload_n 0, 1) := by decide +kernel
theorem dL_law_957 : decode cL_law 957 = .ok (.iload_n 3, 1) := by decide +kernel
theorem dL_law_958 : decode cL_law 958 = .ok (.iconst 1, 1) := by decide +kernel
theorem dL_law_959 : decode cL_law 959 = .ok (.iadd, 1) := by decide +kernel
theorem dL_law_960 : decode cL_law 960 = .ok (.iaload, 1) := by decide +kernel
theorem dL_law_961 : decode cL_law 961 = .ok (.aload_n 0, 1) := by decide +kernel
theorem dL_law_962 : decode cL_law 962 = .ok (.iload_n 3, 1) := by decide +kernel
theorem dL_law_963 : decode cL_law 963 = .ok (.iconst 2, 1) := by decide +kernel
theorem dL_law_964 : decode cL_law 964 = .ok (.iadd, 1) := by decide +kernel
theorem dL_law_965 : decode cL_law 965 = .ok (.iaload, 1) := by decide +kernel
theorem dL_law_966 : decode cL_law 966 = .ok (.invokevirtual 124, 3) := by decide +kernel
theorem dL_law_969 : decode cL_law 969 = .ok (.if_icmp .eq 411, 3) := by decide +kernel
theorem dL_law_972 : decode cL_law 972 = .ok (.iconst 0, 1) := by decide +kernel
theorem dL_law_973 : decode cL_law 973 = .ok (.ireturn, 1) := by decide +kernel
theorem dL_law_974 : decode cL_law 974 = .ok (.aload_n 1, 1) := by decide +kernel
theorem dL_law_975 : decode cL_law 975 = .ok (.aload_n 0, 1) := by decide +kernel
theorem dL_law_976 : decode cL_law 976 = .ok (.iload_n 3, 1) := by decide +kernel
theorem dL_law_977 : decode cL_law 977 = .ok (.iconst 1, 1) := by decide +kernel
theorem dL_law_978 : decode cL_law 978 = .ok (.iadd, 1) := by decide +kernel
theorem dL_law_979 : decode cL_law 979 = .ok (.iaload, 1) := by decide +kernel
theorem dL_law_980 : decode cL_law 980 = .ok (.aload_n 0, 1) := by decide +kernel
theorem dL_law_981 : decode cL_law 981 = .ok (.iload_n 3, 1) := by decide +kernel
theorem dL_law_982 : decode cL_law 982 = .ok (.iconst 2, 1) := by decide +kernel
theorem dL_law_983 : decode cL_law 983 = .ok (.iadd, 1) := by decide +kernel
theorem dL_law_984 : decode cL_law 984 = .ok (.iaload, 1) := by decide +kernel
theorem dL_law_985 : decode cL_law 985 = .ok (.aload_n 0, 1) := by decide +kernel
theorem dL_law_986 : decode cL_law 986 = .ok (.iload_n 3, 1) := by decide +kernel
theorem dL_law_987 : decode cL_law 987 = .ok (.iconst 3, 1) := by decide +kernel
theorem dL_law_988 : decode cL_law 988 = .ok (.iadd, 1) := by decide +kernel
theorem dL_law_989 : decode cL_law 989 = .ok (.iaload, 1) := by decide +kernel
theorem dL_law_990 : decode cL_law 990 = .ok (.invokevirtual 125, 3) := by decide +kernel
theorem dL_law_993 : decode cL_law 993 = .ok (.aload_n 2, 1) := by decide +kernel
theorem dL_law_994 : decode cL_law 994 = .ok (.aload_n 0, 1) := by decide +kernel
theorem dL_law_995 : decode cL_law 995 = .ok (.iload_n 3, 1) := by decide +kernel
theorem dL_law_996 : decode cL_law 996 = .ok (.iconst 1, 1) := by decide +kernel
theorem dL_law_997 : decode cL_law 997 = .ok (.iadd, 1) := by decide +kernel
theorem dL_law_998 : decode cL_law 998 = .ok (.iaload, 1) := by decide +kernel
theorem dL_law_999 : decode cL_law 999 = .ok (.aload_n 0, 1) := by decide +kernel
theorem dL_law_1000 : decode cL_law 1000 = .ok (.iload_n 3, 1) := by decide +kernel
theorem dL_law_1001 : decode cL_law 1001 = .ok (.iconst 2, 1) := by decide +kernel
theorem dL_law_1002 : decode cL_law 1002 = .ok (.iadd, 1) := by decide +kernel
theorem dL_law_1003 : decode cL_law 1003 = .ok (.iaload, 1) := by decide +kernel
theorem dL_law_1004 : decode cL_law 1004 = .ok (.aload_n 0, 1) := by decide +kernel
theorem dL_law_1005 : decode cL_law 1005 = .ok (.iload_n 3, 1) := by decide +kernel
theorem dL_law_1006 : decode cL_law 1006 = .ok (.iconst 3, 1) := by decide +kernel
theorem dL_law_1007 : decode cL_law 1007 = .ok (.iadd, 1) := by decide +kernel
theorem dL_law_1008 : decode cL_law 1008 = .ok (.iaload, 1) := by decide +kernel
theorem dL_law_1009 : decode cL_law 1009 = .ok (.invokevirtual 128, 3) := by decide +kernel
theorem dL_law_1012 : decode cL_law 1012 = .ok (.if_icmp .eq 368, 3) := by decide +kernel
theorem dL_law_1015 : decode cL_law 1015 = .ok (.iconst 0, 1) := by decide +kernel
theorem dL_law_1016 : decode cL_law 1016 = .ok (.ireturn, 1) := by decide +kernel
theorem dL_law_1017 : decode cL_law 1017 = .ok (.aload_n 1, 1) := by decide +kernel
theorem dL_law_1018 : decode cL_law 1018 = .ok (.aload_n 0, 1) := by decide +kernel
theorem dL_law_1019 : decode cL_law 1019 = .ok (.iload_n 3, 1) := by decide +kernel
theorem dL_law_1020 : decode cL_law 1020 = .ok (.iconst 1, 1) := by decide +kernel
theorem dL_law_1021 : decode cL_law 1021 = .ok (.iadd, 1) := by decide +kernel
theorem dL_law_1022 : decode cL_law 1022 = .ok (.iaload, 1) := by decide +kernel
theorem dL_law_1023 : decode cL_law 1023 = .ok (.aload_n 0, 1) := by decide +kernel
theorem dL_law_1024 : decode cL_law 1024 = .ok (.iload_n 3, 1) := by decide +kernel
theorem dL_law_1025 : decode cL_law 1025 = .ok (.iconst 2, 1) := by decide +kernel
theorem dL_law_1026 : decode cL_law 1026 = .ok (.iadd, 1) := by decide +kernel
theorem dL_law_1027 : decode cL_law 1027 = .ok (.iaload, 1) := by decide +kernel
theorem dL_law_1028 : decode cL_law 1028 = .ok (.invokevirtual 129, 3) := by decide +kernel
theorem dL_law_1031 : decode cL_law 1031 = .ok (.aload_n 2, 1) := by decide +kernel
theorem dL_law_1032 : decode cL_law 1032 = .ok (.aload_n 0, 1) := by decide +kernel
theorem dL_law_1033 : decode cL_law 1033 = .ok (.iload_n 3, 1) := by decide +kernel
theorem dL_law_1034 : decode cL_law 1034 = .ok (.iconst 1, 1) := by decide +kernel
theorem dL_law_1035 : decode cL_law 1035 = .ok (.iadd, 1) := by decide +kernel
theorem dL_law_1036 : decode cL_law 1036 = .ok (.iaload, 1) := by decide +kernel
theorem dL_law_1037 : decode cL_law 1037 = .ok (.aload_n 0, 1) := by decide +kernel
theorem dL_law_1038 : decode cL_law 1038 = .ok (.iload_n 3, 1) := by decide +kernel
theorem dL_law_1039 : decode cL_law 1039 = .ok (.iconst 2, 1) := by decide +kernel
theorem dL_law_1040 : decode cL_law 1040 = .ok (.iadd, 1) := by decide +kernel
theorem dL_law_1041 : decode cL_law 1041 = .ok (.iaload, 1) := by decide +kernel
theorem dL_law_1042 : decode cL_law 1042 = .ok (.invokevirtual 132, 3) := by decide +kernel
theorem dL_law_1045 : decode cL_law 1045 = .ok (.if_icmp .eq 335, 3) := by decide +kernel
theorem dL_law_1048 : decode cL_law 1048 = .ok (.iconst 0, 1) := by decide +kernel
theorem dL_law_1049 : decode cL_law 1049 = .ok (.ireturn, 1) := by decide +kernel
theorem dL_law_1050 : decode cL_law 1050 = .ok (.aload_n 1, 1) := by decide +kernel
theorem dL_law_1051 : decode cL_law 1051 = .ok (.aload_n 0, 1) := by decide +kernel
theorem dL_law_1052 : decode cL_law 1052 = .ok (.iload_n 3, 1) := by decide +kernel
theorem dL_law_1053 : decode cL_law 1053 = .ok (.iconst 1, 1) := by decide +kernel
theorem dL_law_1054 : decode cL_law 1054 = .ok (.iadd, 1) := by decide +kernel
theorem dL_law_1055 : decode cL_law 1055 = .ok (.iaload, 1) := by decide +kernel
theorem dL_law_1056 : decode cL_law 1056 = .ok (.aload_n 0, 1) := by decide +kernel
theorem dL_law_1057 : decode cL_law 1057 = .ok (.iload_n 3, 1) := by decide +kernel
theorem dL_law_1058 : decode cL_law 1058 = .ok (.iconst 2, 1) := by decide +kernel
theorem dL_law_1059 : decode cL_law 1059 = .ok (.iadd, 1) := by decide +kernel
theorem dL_law_1060 : decode cL_law 1060 = .ok (.iaload, 1) := by decide +kernel
theorem dL_law_1061 : decode cL_law 1061 = .ok (.invokevirtual 133, 3) := by decide +kernel
theorem dL_law_1064 : decode cL_law 1064 = .ok (.aload_n 2, 1) := by decide +kernel
theorem dL_law_1065 : decode cL_law 1065 = .ok (.aload_n 0, 1) := by decide +kernel
theorem dL_law_1066 : decode cL_law 1066 = .ok (.iload_n 3, 1) := by decide +kernel
theorem dL_law_1067 : decode cL_law 1067 = .ok (.iconst 1, 1) := by decide +kernel
theorem dL_law_1068 : decode cL_law 1068 = .ok (.iadd, 1) := by decide +kernel
theorem dL_law_1069 : decode cL_law 1069 = .ok (.iaload, 1) := by decide +kernel
theorem dL_law_1070 : decode cL_law 1070 = .ok (.aload_n 0, 1) := by decide +kernel
theorem dL_law_1071 : decode cL_law 1071 = .ok (.iload_n 3, 1) := by decide +kernel
theorem dL_law_1072 : decode cL_law 1072 = .ok (.iconst 2, 1) := by decide +kernel
theorem dL_law_1073 : decode cL_law 1073 = .ok (.iadd, 1) := by decide +kernel
theorem dL_law_1074 : decode cL_law 1074 = .ok (.iaload, 1) := by decide +kernel
theorem dL_law_1075 : decode cL_law 1075 = .ok (.invokevirtual 136, 3) := by decide +kernel
theorem dL_law_1078 : decode cL_law 1078 = .ok (.if_icmp .eq 302, 3) := by decide +kernel
theorem dL_law_1081 : decode cL_law 1081 = .ok (.iconst 0, 1) := by decide +kernel
theorem dL_law_1082 : decode cL_law 1082 = .ok (.ireturn, 1) := by decide +kernel
theorem dL_law_1083 : decode cL_law 1083 = .ok (.aload_n 1, 1) := by decide +kernel
theorem dL_law_1084 : decode cL_law 1084 = .ok (.aload_n 0, 1) := by decide +kernel
theorem dL_law_1085 : decode cL_law 1085 = .ok (.iload_n 3, 1) := by decide +kernel
theorem dL_law_1086 : decode cL_law 1086 = .ok (.iconst 1, 1) := by decide +kernel
theorem dL_law_1087 : decode cL_law 1087 = .ok (.iadd, 1) := by decide +kernel
theorem dL_law_1088 : decode cL_law 1088 = .ok (.iaload, 1) := by decide +kernel
theorem dL_law_1089 : decode cL_law 1089 = .ok (.aload_n 0, 1) := by decide +kernel
theorem dL_law_1090 : decode cL_law 1090 = .ok (.iload_n 3, 1) := by decide +kernel
theorem dL_law_1091 : decode cL_law 1091 = .ok (.iconst 2, 1) := by decide +kernel
theorem dL_law_1092 : decode cL_law 1092 = .ok (.iadd, 1) := by decide +kernel
theorem dL_law_1093 : decode cL_law 1093 = .ok (.iaload, 1) := by decide +kernel
theorem dL_law_1094 : decode cL_law 1094 = .ok (.invokevirtual 137, 3) := by decide +kernel
theorem dL_law_1097 : decode cL_law 1097 = .ok (.aload_n 2, 1) := by decide +kernel
theorem dL_law_1098 : decode cL_law 1098 = .ok (.aload_n 0, 1) := by decide +kernel
theorem dL_law_1099 : decode cL_law 1099 = .ok (.iload_n 3, 1) := by decide +kernel
theorem dL_law_1100 : decode cL_law 1100 = .ok (.iconst 1, 1) := by decide +kernel
theorem dL_law_1101 : decode cL_law 1101 = .ok (.iadd, 1) := by decide +kernel
theorem dL_law_1102 : decode cL_law 1102 = .ok (.iaload, 1) := by decide +kernel
theorem dL_law_1103 : decode cL_law 1103 = .ok (.aload_n 0, 1) := by decide +kernel
theorem dL_law_1104 : decode cL_law 1104 = .ok (.iload_n 3, 1) := by decide +kernel
theorem dL_law_1105 : decode cL_law 1105 = .ok (.iconst 2, 1) := by decide +kernel
theorem dL_law_1106 : decode cL_law 1106 = .ok (.iadd, 1) := by decide +kernel
theorem dL_law_1107 : decode cL_law 1107 = .ok (.iaload, 1) := by decide +kernel
theorem dL_law_1108 : decode cL_law 1108 = .ok (.invokevirtual 140, 3) := by decide +kernel
theorem dL_law_1111 : decode cL_law 1111 = .ok (.if_icmp .eq 269, 3) := by decide +kernel
theorem dL_law_1114 : decode cL_law 1114 = .ok (.iconst 0, 1) := by decide +kernel
theorem dL_law_1115 : decode cL_law 1115 = .ok (.ireturn, 1) := by decide +kernel
theorem dL_law_1116 : decode cL_law 1116 = .ok (.aload_n 1, 1) := by decide +kernel
theorem dL_law_1117 : decode cL_law 1117 = .ok (.aload_n 0, 1) := by decide +kernel
theorem dL_law_1118 : decode cL_law 1118 = .ok (.iload_n 3, 1) := by decide +kernel
theorem dL_law_1119 : decode cL_law 1119 = .ok (.iconst 1, 1) := by decide +kernel
theorem dL_law_1120 : decode cL_law 1120 = .ok (.iadd, 1) := by decide +kernel
theorem dL_law_1121 : decode cL_law 1121 = .ok (.iaload, 1) := by decide +kernel
theorem dL_law_1122 : decode cL_law 1122 = .ok (.invokevirtual 141, 3) := by decide +kernel
theorem dL_law_1125 : decode cL_law 1125 = .ok (.aload_n 2, 1) := by decide +kernel
theorem dL_law_1126 : decode cL_law 1126 = .ok (.aload_n 0, 1) := by decide +kernel
theorem dL_law_1127 : decode cL_law 1127 = .ok (.iload_n 3, 1) := by decide +kernel
theorem dL_law_1128 : decode cL_law 1128 = .ok (.iconst 1, 1) := by decide +kernel
theorem dL_law_1129 : decode cL_law 1129 = .ok (.iadd, 1) := by decide +kernel
theorem dL_law_1130 : decode cL_law 1130 = .ok (.iaload, 1) := by decide +kernel
theorem dL_law_1131 : decode cL_law 1131 = .ok (.invokevirtual 144, 3) := by decide +kernel
theorem dL_law_1134 : decode cL_law 1134 = .ok (.if_icmp .eq 246, 3) := by decide +kernel
theorem dL_law_1137 : decode cL_law 1137 = .ok (.iconst 0, 1) := by decide +kernel
theorem dL_law_1138 : decode cL_law 1138 = .ok (.ireturn, 1) := by decide +kernel
theorem dL_law_1139 : decode cL_law 1139 = .ok (.aload_n 1, 1) := by decide +kernel
theorem dL_law_1140 : decode cL_law 1140 = .ok (.invokevirtual 145, 3) := by decide +kernel
theorem dL_law_1143 : decode cL_law 1143 = .ok (.aload_n 2, 1) := by decide +kernel
theorem dL_law_1144 : decode cL_law 1144 = .ok (.invokevirtual 148, 3) := by decide +kernel
theorem dL_law_1147 : decode cL_law 1147 = .ok (.if_icmp .eq 233, 3) := by decide +kernel
theorem dL_law_1150 : decode cL_law 1150 = .ok (.iconst 0, 1) := by decide +kernel
theorem dL_law_1151 : decode cL_law 1151 = .ok (.ireturn, 1) := by decide +kernel
theorem dL_law_1152 : decode cL_law 1152 = .ok (.aload_n 1, 1) := by decide +kernel
theorem dL_law_1153 : decode cL_law 1153 = .ok (.invokevirtual 149, 3) := by decide +kernel
theorem dL_law_1156 : decode cL_law 1156 = .ok (.aload_n 2, 1) := by decide +kernel
theorem dL_law_1157 : decode cL_law 1157 = .ok (.invokevirtual 152, 3) := by decide +kernel
theorem dL_law_1160 : decode cL_law 1160 = .ok (.if_icmp .eq 220, 3) := by decide +kernel
theorem dL_law_1163 : decode cL_law 1163 = .ok (.iconst 0, 1) := by decide +kernel
theorem dL_law_1164 : decode cL_law 1164 = .ok (.ireturn, 1) := by decide +kernel
theorem dL_law_1165 : decode cL_law 1165 = .ok (.aload_n 1, 1) := by decide +kernel
theorem dL_law_1166 : decode cL_law 1166 = .ok (.aload_n 0, 1) := by decide +kernel
theorem dL_law_1167 : decode cL_law 1167 = .ok (.iload_n 3, 1) := by decide +kernel
theorem dL_law_1168 : decode cL_law 1168 = .ok (.iconst 1, 1) := by decide +kernel
theorem dL_law_1169 : decode cL_law 1169 = .ok (.iadd, 1) := by decide +kernel
theorem dL_law_1170 : decode cL_law 1170 = .ok (.iaload, 1) := by decide +kernel
theorem dL_law_1171 : decode cL_law 1171 = .ok (.aload_n 0, 1) := by decide +kernel
theorem dL_law_1172 : decode cL_law 1172 = .ok (.iload_n 3, 1) := by decide +kernel
theorem dL_law_1173 : decode cL_law 1173 = .ok (.iconst 2, 1) := by decide +kernel
theorem dL_law_1174 : decode cL_law 1174 = .ok (.iadd, 1) := by decide +kernel
theorem dL_law_1175 : decode cL_law 1175 = .ok (.iaload, 1) := by decide +kernel
theorem dL_law_1176 : decode cL_law 1176 = .ok (.aload_n 0, 1) := by decide +kernel
theorem dL_law_1177 : decode cL_law 1177 = .ok (.iload_n 3, 1) := by decide +kernel
theorem dL_law_1178 : decode cL_law 1178 = .ok (.iconst 3, 1) := by decide +kernel
theorem dL_law_1179 : decode cL_law 1179 = .ok (.iadd, 1) := by decide +kernel
theorem dL_law_1180 : decode cL_law 1180 = .ok (.iaload, 1) := by decide +kernel
theorem dL_law_1181 : decode cL_law 1181 = .ok (.aload_n 0, 1) := by decide +kernel
theorem dL_law_1182 : decode cL_law 1182 = .ok (.iload_n 3, 1) := by decide +kernel
theorem dL_law_1183 : decode cL_law 1183 = .ok (.iconst 4, 1) := by decide +kernel
theorem dL_law_1184 : decode cL_law 1184 = .ok (.iadd, 1) := by decide +kernel
theorem dL_law_1185 : decode cL_law 1185 = .ok (.iaload, 1) := by decide +kernel
theorem dL_law_1186 : decode cL_law 1186 = .ok (.invokevirtual 153, 3) := by decide +kernel
theorem dL_law_1189 : decode cL_law 1189 = .ok (.aload_n 2, 1) := by decide +kernel
theorem dL_law_1190 : decode cL_law 1190 = .ok (.aload_n 0, 1) := by decide +kernel
theorem dL_law_1191 : decode cL_law 1191 = .ok (.iload_n 3, 1) := by decide +kernel
theorem dL_law_1192 : decode cL_law 1192 = .ok (.iconst 1, 1) := by decide +kernel
theorem dL_law_1193 : decode cL_law 1193 = .ok (.iadd, 1) := by decide +kernel
theorem dL_law_1194 : decode cL_law 1194 = .ok (.iaload, 1) := by decide +kernel
theorem dL_law_1195 : decode cL_law 1195 = .ok (.aload_n 0, 1) := by decide +kernel
theorem dL_law_1196 : decode cL_law 1196 = .ok (.iload_n 3, 1) := by decide +kernel
theorem dL_law_1197 : decode cL_law 1197 = .ok (.iconst 2, 1) := by decide +kernel
theorem dL_law_1198 : decode cL_law 1198 = .ok (.iadd, 1) := by decide +kernel
theorem dL_law_1199 : decode cL_law 1199 = .ok (.iaload, 1) := by decide +kernel
theorem dL_law_1200 : decode cL_law 1200 = .ok (.aload_n 0, 1) := by decide +kernel
theorem dL_law_1201 : decode cL_law 1201 = .ok (.iload_n 3, 1) := by decide +kernel
theorem dL_law_1202 : decode cL_law 1202 = .ok (.iconst 3, 1) := by decide +kernel
theorem dL_law_1203 : decode cL_law 1203 = .ok (.iadd, 1) := by decide +kernel
theorem dL_law_1204 : decode cL_law 1204 = .ok (.iaload, 1) := by decide +kernel
theorem dL_law_1205 : decode cL_law 1205 = .ok (.aload_n 0, 1) := by decide +kernel
theorem dL_law_1206 : decode cL_law 1206 = .ok (.iload_n 3, 1) := by decide +kernel
theorem dL_law_1207 : decode cL_law 1207 = .ok (.iconst 4, 1) := by decide +kernel
theorem dL_law_1208 : decode cL_law 1208 = .ok (.iadd, 1) := by decide +kernel
theorem dL_law_1209 : decode cL_law 1209 = .ok (.iaload, 1) := by decide +kernel
theorem dL_law_1210 : decode cL_law 1210 = .ok (.invokevirtual 157, 3) := by decide +kernel
theorem dL_law_1213 : decode cL_law 1213 = .ok (.if_icmp .eq 167, 3) := by decide +kernel
theorem dL_law_1216 : decode cL_law 1216 = .ok (.iconst 0, 1) := by decide +kernel
theorem dL_law_1217 : decode cL_law 1217 = .ok (.ireturn, 1) := by decide +kernel
theorem dL_law_1218 : decode cL_law 1218 = .ok (.aload_n 1, 1) := by decide +kernel
theorem dL_law_1219 : decode cL_law 1219 = .ok (.aload_n 0, 1) := by decide +kernel
theorem dL_law_1220 : decode cL_law 1220 = .ok (.iload_n 3, 1) := by decide +kernel
theorem dL_law_1221 : decode cL_law 1221 = .ok (.iconst 1, 1) := by decide +kernel
theorem dL_law_1222 : decode cL_law 1222 = .ok (.iadd, 1) := by decide +kernel
theorem dL_law_1223 : decode cL_law 1223 = .ok (.iaload, 1) := by decide +kernel
theorem dL_law_1224 : decode cL_law 1224 = .ok (.aload_n 0, 1) := by decide +kernel
theorem dL_law_1225 : decode cL_law 1225 = .ok (.iload_n 3, 1) := by decide +kernel
theorem dL_law_1226 : decode cL_law 1226 = .ok (.iconst 2, 1) := by decide +kernel
theorem dL_law_1227 : decode cL_law 1227 = .ok (.iadd, 1) := by decide +kernel
theorem dL_law_1228 : decode cL_law 1228 = .ok (.iaload, 1) := by decide +kernel
theorem dL_law_1229 : decode cL_law 1229 = .ok (.aload_n 0, 1) := by decide +kernel
theorem dL_law_1230 : decode cL_law 1230 = .ok (.iload_n 3, 1) := by decide +kernel
theorem dL_law_1231 : decode cL_law 1231 = .ok (.iconst 3, 1) := by decide +kernel
theorem dL_law_1232 : decode cL_law 1232 = .ok (.iadd, 1) := by decide +kernel
theorem dL_law_1233 : decode cL_law 1233 = .ok (.iaload, 1) := by decide +kernel
theorem dL_law_1234 : decode cL_law 1234 = .ok (.invokevirtual 158, 3) := by decide +kernel
theorem dL_law_1237 : decode cL_law 1237 = .ok (.aload_n 2, 1) := by decide +kernel
theorem dL_law_1238 : decode cL_law 1238 = .ok (.aload_n 0, 1) := by decide +kernel
theorem dL_law_1239 : decode cL_law 1239 = .ok (.iload_n 3, 1) := by decide +kernel
theorem dL_law_1240 : decode cL_law 1240 = .ok (.iconst 1, 1) := by decide +kernel
theorem dL_law_1241 : decode cL_law 1241 = .ok (.iadd, 1) := by decide +kernel
theorem dL_law_1242 : decode cL_law 1242 = .ok (.iaload, 1) := by decide +kernel
theorem dL_law_1243 : decode cL_law 1243 = .ok (.aload_n 0, 1) := by decide +kernel
theorem dL_law_1244 : decode cL_law 1244 = .ok (.iload_n 3, 1) := by decide +kernel
theorem dL_law_1245 : decode cL_law 1245 = .ok (.iconst 2, 1) := by decide +kernel
theorem dL_law_1246 : decode cL_law 1246 = .ok (.iadd, 1) := by decide +kernel
theorem dL_law_1247 : decode cL_law 1247 = .ok (.iaload, 1) := by decide +kernel
theorem dL_law_1248 : decode cL_law 1248 = .ok (.aload_n 0, 1) := by decide +kernel
theorem dL_law_1249 : decode cL_law 1249 = .ok (.iload_n 3, 1) := by decide +kernel
theorem dL_law_1250 : decode cL_law 1250 = .ok (.iconst 3, 1) := by decide +kernel
theorem dL_law_1251 : decode cL_law 1251 = .ok (.iadd, 1) := by decide +kernel
theorem dL_law_1252 : decode cL_law 1252 = .ok (.iaload, 1) := by decide +kernel
theorem dL_law_1253 : decode cL_law 1253 = .ok (.invokevirtual 161, 3) := by decide +kernel
theorem dL_law_1256 : decode cL_law 1256 = .ok (.if_icmp .eq 124, 3) := by decide +kernel
theorem dL_law_1259 : decode cL_law 1259 = .ok (.iconst 0, 1) := by decide +kernel
theorem dL_law_1260 : decode cL_law 1260 = .ok (.ireturn, 1) := by decide +kernel
theorem dL_law_1261 : decode cL_law 1261 = .ok (.aload_n 1, 1) := by decide +kernel
theorem dL_law_1262 : decode cL_law 1262 = .ok (.aload_n 0, 1) := by decide +kernel
theorem dL_law_1263 : decode cL_law 1263 = .ok (.iload_n 3, 1) := by decide +kernel
theorem dL_law_1264 : decode cL_law 1264 = .ok (.iconst 1, 1) := by decide +kernel
theorem dL_law_1265 : decode cL_law 1265 = .ok (.iadd, 1) := by decide +kernel
theorem dL_law_1266 : decode cL_law 1266 = .ok (.iaload, 1) := by decide +kernel
theorem dL_law_1267 : decode cL_law 1267 = .ok (.invokevirtual 162, 3) := by decide +kernel
theorem dL_law_1270 : decode cL_law 1270 = .ok (.aload_n 2, 1) := by decide +kernel
theorem dL_law_1271 : decode cL_law 1271 = .ok (.aload_n 0, 1) := by decide +kernel
theorem dL_law_1272 : decode cL_law 1272 = .ok (.iload_n 3, 1) := by decide +kernel
theorem dL_law_1273 : decode cL_law 1273 = .ok (.iconst 1, 1) := by decide +kernel
theorem dL_law_1274 : decode cL_law 1274 = .ok (.iadd, 1) := by decide +kernel
theorem dL_law_1275 : decode cL_law 1275 = .ok (.iaload, 1) := by decide +kernel
theorem dL_law_1276 : decode cL_law 1276 = .ok (.invokevirtual 165, 3) := by decide +kernel
theorem dL_law_1279 : decode cL_law 1279 = .ok (.if_icmp .eq 101, 3) := by decide +kernel
theorem dL_law_1282 : decode cL_law 1282 = .ok (.iconst 0, 1) := by decide +kernel
theorem dL_law_1283 : decode cL_law 1283 = .ok (.ireturn, 1) := by decide +kernel
theorem dL_law_1284 : decode cL_law 1284 = .ok (.aload_n 1, 1) := by decide +kernel
theorem dL_law_1285 : decode cL_law 1285 = .ok (.aload_n 0, 1) := by decide +kernel
theorem dL_law_1286 : decode cL_law 1286 = .ok (.iload_n 3, 1) := by decide +kernel
theorem dL_law_1287 : decode cL_law 1287 = .ok (.iconst 1, 1) := by decide +kernel
theorem dL_law_1288 : decode cL_law 1288 = .ok (.iadd, 1) := by decide +kernel
theorem dL_law_1289 : decode cL_law 1289 = .ok (.iaload, 1) := by decide +kernel
theorem dL_law_1290 : decode cL_law 1290 = .ok (.aload_n 0, 1) := by decide +kernel
theorem dL_law_1291 : decode cL_law 1291 = .ok (.iload_n 3, 1) := by decide +kernel
theorem dL_law_1292 : decode cL_law 1292 = .ok (.iconst 2, 1) := by decide +kernel
theorem dL_law_1293 : decode cL_law 1293 = .ok (.iadd, 1) := by decide +kernel
theorem dL_law_1294 : decode cL_law 1294 = .ok (.iaload, 1) := by decide +kernel
theorem dL_law_1295 : decode cL_law 1295 = .ok (.aload_n 0, 1) := by decide +kernel
theorem dL_law_1296 : decode cL_law 1296 = .ok (.iload_n 3, 1) := by decide +kernel
theorem dL_law_1297 : decode cL_law 1297 = .ok (.iconst 3, 1) := by decide +kernel
theorem dL_law_1298 : decode cL_law 1298 = .ok (.iadd, 1) := by decide +kernel
theorem dL_law_1299 : decode cL_law 1299 = .ok (.iaload, 1) := by decide +kernel
theorem dL_law_1300 : decode cL_law 1300 = .ok (.aload_n 0, 1) := by decide +kernel
theorem dL_law_1301 : decode cL_law 1301 = .ok (.iload_n 3, 1) := by decide +kernel
theorem dL_law_1302 : decode cL_law 1302 = .ok (.iconst 4, 1) := by decide +kernel
theorem dL_law_1303 : decode cL_law 1303 = .ok (.iadd, 1) := by decide +kernel
theorem dL_law_1304 : decode cL_law 1304 = .ok (.iaload, 1) := by decide +kernel
theorem dL_law_1305 : decode cL_law 1305 = .ok (.invokevirtual 166, 3) := by decide +kernel
theorem dL_law_1308 : decode cL_law 1308 = .ok (.aload_n 2, 1) := by decide +kernel
theorem dL_law_1309 : decode cL_law 1309 = .ok (.aload_n 0, 1) := by decide +kernel
theorem dL_law_1310 : decode cL_law 1310 = .ok (.iload_n 3, 1) := by decide +kernel
theorem dL_law_1311 : decode cL_law 1311 = .ok (.iconst 1, 1) := by decide +kernel
theorem dL_law_1312 : decode cL_law 1312 = .ok (.iadd, 1) := by decide +kernel
theorem dL_law_1313 : decode cL_law 1313 = .ok (.iaload, 1) := by decide +kernel
theorem dL_law_1314 : decode cL_law 1314 = .ok (.aload_n 0, 1) := by decide +kernel
theorem dL_law_1315 : decode cL_law 1315 = .ok (.iload_n 3, 1) := by decide +kernel
theorem dL_law_1316 : decode cL_law 1316 = .ok (.iconst 2, 1) := by decide +kernel
theorem dL_law_1317 : decode cL_law 1317 = .ok (.iadd, 1) := by decide +kernel
theorem dL_law_1318 : decode cL_law 1318 = .ok (.iaload, 1) := by decide +kernel
theorem dL_law_1319 : decode cL_law 1319 = .ok (.aload_n 0, 1) := by decide +kernel
theorem dL_law_1320 : decode cL_law 1320 = .ok (.iload_n 3, 1) := by decide +kernel
theorem dL_law_1321 : decode cL_law 1321 = .ok (.iconst 3, 1) := by decide +kernel
theorem dL_law_1322 : decode cL_law 1322 = .ok (.iadd, 1) := by decide +kernel
theorem dL_law_1323 : decode cL_law 1323 = .ok (.iaload, 1) := by decide +kernel
theorem dL_law_1324 : decode cL_law 1324 = .ok (.aload_n 0, 1) := by decide +kernel
theorem dL_law_1325 : decode cL_law 1325 = .ok (.iload_n 3, 1) := by decide +kernel
theorem dL_law_1326 : decode cL_law 1326 = .ok (.iconst 4, 1) := by decide +kernel
theorem dL_law_1327 : decode cL_law 1327 = .ok (.iadd, 1) := by decide +kernel
theorem dL_law_1328 : decode cL_law 1328 = .ok (.iaload, 1) := by decide +kernel
theorem dL_law_1329 : decode cL_law 1329 = .ok (.invokevirtual 169, 3) := by decide +kernel
theorem dL_law_1332 : decode cL_law 1332 = .ok (.if_icmp .eq 48, 3) := by decide +kernel
theorem dL_law_1335 : decode cL_law 1335 = .ok (.iconst 0, 1) := by decide +kernel
theorem dL_law_1336 : decode cL_law 1336 = .ok (.ireturn, 1) := by decide +kernel
theorem dL_law_1337 : decode cL_law 1337 = .ok (.aload_n 1, 1) := by decide +kernel
theorem dL_law_1338 : decode cL_law 1338 = .ok (.aload_n 0, 1) := by decide +kernel
theorem dL_law_1339 : decode cL_law 1339 = .ok (.iload_n 3, 1) := by decide +kernel
theorem dL_law_1340 : decode cL_law 1340 = .ok (.iconst 1, 1) := by decide +kernel
theorem dL_law_1341 : decode cL_law 1341 = .ok (.iadd, 1) := by decide +kernel
theorem dL_law_1342 : decode cL_law 1342 = .ok (.iaload, 1) := by decide +kernel
theorem dL_law_1343 : decode cL_law 1343 = .ok (.aload_n 0, 1) := by decide +kernel
theorem dL_law_1344 : decode cL_law 1344 = .ok (.iload_n 3, 1) := by decide +kernel
theorem dL_law_1345 : decode cL_law 1345 = .ok (.iconst 2, 1) := by decide +kernel
theorem dL_law_1346 : decode cL_law 1346 = .ok (.iadd, 1) := by decide +kernel
theorem dL_law_1347 : decode cL_law 1347 = .ok (.iaload, 1) := by decide +kernel
theorem dL_law_1348 : decode cL_law 1348 = .ok (.aload_n 0, 1) := by decide +kernel
theorem dL_law_1349 : decode cL_law 1349 = .ok (.iload_n 3, 1) := by decide +kernel
theorem dL_law_1350 : decode cL_law 1350 = .ok (.iconst 3, 1) := by decide +kernel
theorem dL_law_1351 : decode cL_law 1351 = .ok (.iadd, 1) := by decide +kernel
theorem dL_law_1352 : decode cL_law 1352 = .ok (.iaload, 1) := by decide +kernel
theorem dL_law_1353 : decode cL_law 1353 = .ok (.invokevirtual 170, 3) := by decide +kernel
theorem dL_law_1356 : decode cL_law 1356 = .ok (.aload_n 2, 1) := by decide +kernel
theorem dL_law_1357 : decode cL_law 1357 = .ok (.aload_n 0, 1) := by decide +kernel
theorem dL_law_1358 : decode cL_law 1358 = .ok (.iload_n 3, 1) := by decide +kernel
theorem dL_law_1359 : decode cL_law 1359 = .ok (.iconst 1, 1) := by decide +kernel
theorem dL_law_1360 : decode cL_law 1360 = .ok (.iadd, 1) := by decide +kernel
theorem dL_law_1361 : decode cL_law 1361 = .ok (.iaload, 1) := by decide +kernel
theorem dL_law_1362 : decode cL_law 1362 = .ok (.aload_n 0, 1) := by decide +kernel
theorem dL_law_1363 : decode cL_law 1363 = .ok (.iload_n 3, 1) := by decide +kernel
theorem dL_law_1364 : decode cL_law 1364 = .ok (.iconst 2, 1) := by decide +kernel
theorem dL_law_1365 : decode cL_law 1365 = .ok (.iadd, 1) := by decide +kernel
theorem dL_law_1366 : decode cL_law 1366 = .ok (.iaload, 1) := by decide +kernel
theorem dL_law_1367 : decode cL_law 1367 = .ok (.aload_n 0, 1) := by decide +kernel
theorem dL_law_1368 : decode cL_law 1368 = .ok (.iload_n 3, 1) := by decide +kernel
theorem dL_law_1369 : decode cL_law 1369 = .ok (.iconst 3, 1) := by decide +kernel
theorem dL_law_1370 : decode cL_law 1370 = .ok (.iadd, 1) := by decide +kernel
theorem dL_law_1371 : decode cL_law 1371 = .ok (.iaload, 1) := by decide +kernel
theorem dL_law_1372 : decode cL_law 1372 = .ok (.invokevirtual 173, 3) := by decide +kernel
theorem dL_law_1375 : decode cL_law 1375 = .ok (.if_icmp .eq 5, 3) := by decide +kernel
theorem dL_law_1378 : decode cL_law 1378 = .ok (.iconst 0, 1) := by decide +kernel
theorem dL_law_1379 : decode cL_law 1379 = .ok (.ireturn, 1) := by decide +kernel
theorem dL_law_1380 : decode cL_law 1380 = .ok (.iinc 3 5, 3) := by decide +kernel
theorem dL_law_1383 : decode cL_law 1383 = .ok (.goto (-1365), 3) := by decide +kernel
theorem dL_law_1386 : decode cL_law 1386 = .ok (.iconst 1, 1) := by decide +kernel
theorem dL_law_1387 : decode cL_law 1387 = .ok (.ireturn, 1) := by decide +kernel
end
section
def UW : List Cond := lw_tbl.filter goodWord
theorem UW_good : GoodIn UW UW := fun w h => ⟨h, good_of_word (List.mem_filter.mp h).2⟩
theorem uw {w : Cond} (i : Nat) (h : lw_tbl[i]? = some w) (hg : goodWord w = true) : w ∈ UW := List.mem_filter.mpr ⟨List.mem_of_getElem? h, hg⟩
theorem uwm {w : Cond} (h : w ∈ UW) : w ∈ lw_tbl := (List.mem_filter.mp h).1
theorem se_yX8_isStrip : (.selects RX8 yX8_isStrip yX8_isStrip : Cond) ∈ UW := uw 0 (by decide +kernel) rfl
theorem se_yX6_readWord : (.selects RX6 yX6_readWord yX6_readWord : Cond) ∈ UW := uw 1 (by decide +kernel) rfl
theorem se_yX6_nextSign : (.selects RX6 yX6_nextSign yX6_nextSign : Cond) ∈ UW := uw 2 (by decide +kernel) rfl
theorem se_yX6_readPay : (.selects RX6 yX6_readPay yX6_readPay : Cond) ∈ UW := uw 3 (by decide +kernel) rfl
theorem se_yX8_isWord : (.selects RX8 yX8_isWord yX8_isWord : Cond) ∈ UW := uw 4 (by decide +kernel) rfl
theorem se_yX2_sumUp : (.selects RX2 yX2_sumUp yX2_sumUp : Cond) ∈ UW := uw 5 (by decide +kernel) rfl
theorem se_yX2_mostBy : (.selects RX2 yX2_mostBy yX2_mostBy : Cond) ∈ UW := uw 6 (by decide +kernel) rfl
theorem se_yX2_firstForMost : (.selects RX2 yX2_firstForMost yX2_firstForMost : Cond) ∈ UW := uw 7 (by decide +kernel) rfl
theorem se_yX0_hasFeud : (.selects RX0 yX0_hasFeud yX0_hasFeud : Cond) ∈ UW := uw 8 (by decide +kernel) rfl
theorem se_yX0_wouldRead : (.selects RX0 yX0_wouldRead yX0_wouldRead : Cond) ∈ UW := uw 9 (by decide +kernel) rfl
theorem se_yX0_lossOn : (.selects RX0 yX0_lossOn yX0_lossOn : Cond) ∈ UW := uw 10 (by decide +kernel) rfl
theorem se_yX1_weigh : (.selects RX1 yX1_weigh yX1_weigh : Cond) ∈ UW := uw 11 (by decide +kernel) rfl
theorem se_yX1_tallyOf : (.selects RX1 yX1_tallyOf yX1_tallyOf : Cond) ∈ UW := uw 12 (by decide +kernel) rfl
theorem se_yX7_placeBehind : (.selects RX7 yX7_placeBehind yX7_placeBehind : Cond) ∈ UW := uw 13 (by decide +kernel) rfl
theorem se_yX9_addStrip : (.selects RX9 yX9_addStrip yX9_addStrip : Cond) ∈ UW := uw 14 (by decide +kernel) rfl
theorem se_yX9_isStrip : (.selects RX9 yX9_isStrip yX9_isStrip : Cond) ∈ UW := uw 15 (by decide +kernel) rfl
theorem se_yX9_seenOf : (.selects RX9 yX9_seenOf yX9_seenOf : Cond) ∈ UW := uw 16 (by decide +kernel) rfl
theorem se_yX9_readsAs : (.selects RX9 yX9_readsAs yX9_readsAs : Cond) ∈ UW := uw 17 (by decide +kernel) rfl
theorem se_yX9_nearestForm : (.selects RX9 yX9_nearestForm yX9_nearestForm : Cond) ∈ UW := uw 18 (by decide +kernel) rfl
theorem se_yX9_hasGrown : (.selects RX9 yX9_hasGrown yX9_hasGrown : Cond) ∈ UW := uw 19 (by decide +kernel) rfl
theorem se_yX9_mowSet : (.selects RX9 yX9_mowSet yX9_mowSet : Cond) ∈ UW := uw 20 (by decide +kernel) rfl
theorem se_yX9_goWeek : (.selects RX9 yX9_goWeek yX9_goWeek : Cond) ∈ UW := uw 21 (by decide +kernel) rfl
theorem se_yX9_nextByte : (.selects RX9 yX9_nextByte yX9_nextByte : Cond) ∈ UW := uw 22 (by decide +kernel) rfl
theorem se_yX9_readWords : (.selects RX9 yX9_readWords yX9_readWords : Cond) ∈ UW := uw 23 (by decide +kernel) rfl
theorem se_yX9_readWord : (.selects RX9 yX9_readWord yX9_readWord : Cond) ∈ UW := uw 24 (by decide +kernel) rfl
theorem se_yX9_readNumber : (.selects RX9 yX9_readNumber yX9_readNumber : Cond) ∈ UW := uw 25 (by decide +kernel) rfl
theorem se_yX9_isWord : (.selects RX9 yX9_isWord yX9_isWord : Cond) ∈ UW := uw 26 (by decide +kernel) rfl
theorem se_yX9_isWritten : (.selects RX9 yX9_isWritten yX9_isWritten : Cond) ∈ UW := uw 27 (by decide +kernel) rfl
theorem se_yX9_hasRoom : (.selects RX9 yX9_hasRoom yX9_hasRoom : Cond) ∈ UW := uw 28 (by decide +kernel) rfl
theorem se_yX9_sizeOf : (.selects RX9 yX9_sizeOf yX9_sizeOf : Cond) ∈ UW := uw 29 (by decide +kernel) rfl
theorem se_yX9_letterOf : (.selects RX9 yX9_letterOf yX9_letterOf : Cond) ∈ UW := uw 30 (by decide +kernel) rfl
theorem se_yX9_mayBe : (.selects RX9 yX9_mayBe yX9_mayBe : Cond) ∈ UW := uw 31 (by decide +kernel) rfl
theorem se_yX9_lostBy : (.selects RX9 yX9_lostBy yX9_lostBy : Cond) ∈ UW := uw 32 (by decide +kernel) rfl
theorem se_yX9_lostOn : (.selects RX9 yX9_lostOn yX9_lostOn : Cond) ∈ UW := uw 33 (by decide +kernel) rfl
theorem se_yX9_findRow : (.selects RX9 yX9_findRow yX9_findRow : Cond) ∈ UW := uw 34 (by decide +kernel) rfl
theorem se_yX9_tellRow : (.selects RX9 yX9_tellRow yX9_tellRow : Cond) ∈ UW := uw 35 (by decide +kernel) rfl
theorem se_yX9_findOdds : (.selects RX9 yX9_findOdds yX9_findOdds : Cond) ∈ UW := uw 36 (by decide +kernel) rfl
theorem se_yX9_areLike : (.selects RX9 yX9_areLike yX9_areLike : Cond) ∈ UW := uw 37 (by decide +kernel) rfl
theorem se_yX9_isIn : (.selects RX9 yX9_isIn yX9_isIn : Cond) ∈ UW := uw 38 (by decide +kernel) rfl
theorem se_yX9_carried : (.selects RX9 yX9_carried yX9_carried : Cond) ∈ UW := uw 39 (by decide +kernel) rfl
theorem se_yX9_lacksRow : (.selects RX9 yX9_lacksRow yX9_lacksRow : Cond) ∈ UW := uw 40 (by decide +kernel) rfl
theorem in_RL : (.initialized "MownWordsLaw" : Cond) ∈ UW := uw 41 (by decide +kernel) rfl
theorem in_RX8 : (.initialized RX8 : Cond) ∈ UW := uw 42 (by decide +kernel) rfl
theorem in_RX0 : (.initialized RX0 : Cond) ∈ UW := uw 43 (by decide +kernel) rfl
theorem in_RJ10 : (.initialized "java/lang/System" : Cond) ∈ UW := uw 44 (by decide +kernel) rfl
theorem in_RX4 : (.initialized RX4 : Cond) ∈ UW := uw 45 (by decide +kernel) rfl
theorem in_RX7 : (.initialized RX7 : Cond) ∈ UW := uw 46 (by decide +kernel) rfl
theorem in_RX2 : (.initialized RX2 : Cond) ∈ UW := uw 47 (by decide +kernel) rfl
theorem in_RX1 : (.initialized RX1 : Cond) ∈ UW := uw 48 (by decide +kernel) rfl
theorem in_RX6 : (.initialized RX6 : Cond) ∈ UW := uw 49 (by decide +kernel) rfl
theorem in_RX3 : (.initialized RX3 : Cond) ∈ UW := uw 50 (by decide +kernel) rfl
theorem in_RX9 : (.initialized RX9 : Cond) ∈ UW := uw 51 (by decide +kernel) rfl
theorem in_RJ7 : (.initialized RJ7 : Cond) ∈ UW := uw 52 (by decide +kernel) rfl
theorem in_RJ6 : (.initialized RJ6 : Cond) ∈ UW := uw 53 (by decide +kernel) rfl
theorem in_RJ9 : (.initialized "java/lang/Math" : Cond) ∈ UW := uw 54 (by decide +kernel) rfl
theorem in_RX5 : (.initialized RX5 : Cond) ∈ UW := uw 55 (by decide +kernel) rfl
theorem cl_RL_7 : (.classLink RL 7 "MownWords" : Cond) ∈ UW := uw 56 (by decide +kernel) rfl
theorem it_RX8 : (.instantiable RX8 7 : Cond) ∈ UW := uw 57 (by decide +kernel) rfl
theorem ml_RL_9 : (.methodLink RL 9 yX8_init : Cond) ∈ UW := uw 58 (by decide +kernel) rfl
theorem im_yX8_init : (.instanceMethod yX8_init : Cond) ∈ UW := uw 59 (by decide +kernel) rfl
theorem co_yX8_init : (.code yX8_init cX8_init 2 (Option.none : Option Jvm.ClassFile.FieldType) : Cond) ∈ UW := uw 60 (by decide +kernel) rfl
theorem ml_RX8_3 : (.methodLink RX8 3 objectInit : Cond) ∈ UW := uw 61 (by decide +kernel) rfl
theorem im_objectInit : (.instanceMethod objectInit : Cond) ∈ UW := uw 62 (by decide +kernel) rfl
theorem co_objectInit : (.code objectInit ⟨#[0xb1]⟩ 1 none : Cond) ∈ UW := uw 63 (by decide +kernel) rfl
theorem cl_RX8_9 : (.classLink RX8 9 "MownWords$Meadow" : Cond) ∈ UW := uw 64 (by decide +kernel) rfl
theorem it_RX0 : (.instantiable RX0 7 : Cond) ∈ UW := uw 65 (by decide +kernel) rfl
theorem ml_RX8_11 : (.methodLink RX8 11 yX0_init : Cond) ∈ UW := uw 66 (by decide +kernel) rfl
theorem im_yX0_init : (.instanceMethod yX0_init : Cond) ∈ UW := uw 67 (by decide +kernel) rfl
theorem co_yX0_init : (.code yX0_init cX0_init 2 (Option.none : Option Jvm.ClassFile.FieldType) : Cond) ∈ UW := uw 68 (by decide +kernel) rfl
theorem ml_RX0_3 : (.methodLink RX0 3 objectInit : Cond) ∈ UW := uw 69 (by decide +kernel) rfl
theorem cl_RX0_18 : (.classLink RX0 18 "MownWords$Strip" : Cond) ∈ UW := uw 72 (by decide +kernel) rfl
theorem cl_RX0_28 : (.classLink RX0 28 "MownWords$Word" : Cond) ∈ UW := uw 74 (by decide +kernel) rfl
theorem ml_RX0_43 : (.methodLink RX0 43 arraycopyName : Cond) ∈ UW := uw 76 (by decide +kernel) rfl
theorem sm_arraycopyName : (.static arraycopyName : Cond) ∈ UW := uw 77 (by decide +kernel) rfl
theorem nm_arraycopyName : (.native arraycopyName : Cond) ∈ UW := uw 78 (by decide +kernel) rfl
theorem it_RX4 : (.instantiable RX4 2 : Cond) ∈ UW := uw 79 (by decide +kernel) rfl
theorem im_yX4_init : (.instanceMethod yX4_init : Cond) ∈ UW := uw 81 (by decide +kernel) rfl
theorem co_yX4_init : (.code yX4_init cX4_init 1 (Option.none : Option Jvm.ClassFile.FieldType) : Cond) ∈ UW := uw 82 (by decide +kernel) rfl
theorem ml_RX4_3 : (.methodLink RX4 3 objectInit : Cond) ∈ UW := uw 83 (by decide +kernel) rfl
theorem fl_RX4_9 : (.fieldLink RX4 9 "MownWords$Strip" "owner" "I" : Cond) ∈ UW := uw 84 (by decide +kernel) rfl
theorem fl_RX0_80 : (.fieldLink RX0 80 "MownWords$Strip" "owner" "I" : Cond) ∈ UW := uw 85 (by decide +kernel) rfl
theorem fl_RX4_15 : (.fieldLink RX4 15 "MownWords$Strip" "blades" "[I" : Cond) ∈ UW := uw 86 (by decide +kernel) rfl
theorem fl_RX8_78 : (.fieldLink RX8 78 "MownWords$Strip" "blades" "[I" : Cond) ∈ UW := uw 87 (by decide +kernel) rfl
theorem ac_int : (.arrayClass .int : Cond) ∈ UW := uw 93 (by decide +kernel) rfl
theorem it_RX7 : (.instantiable RX7 3 : Cond) ∈ UW := uw 94 (by decide +kernel) rfl
theorem im_yX7_init : (.instanceMethod yX7_init : Cond) ∈ UW := uw 96 (by decide +kernel) rfl
theorem co_yX7_init : (.code yX7_init cX7_init 1 (Option.none : Option Jvm.ClassFile.FieldType) : Cond) ∈ UW := uw 97 (by decide +kernel) rfl
theorem ml_RX7_3 : (.methodLink RX7 3 objectInit : Cond) ∈ UW := uw 98 (by decide +kernel) rfl
theorem fl_RX7_9 : (.fieldLink RX7 9 "MownWords$Word" "length" "I" : Cond) ∈ UW := uw 99 (by decide +kernel) rfl
theorem fl_RX2_65 : (.fieldLink RX2 65 "MownWords$Word" "length" "I" : Cond) ∈ UW := uw 100 (by decide +kernel) rfl
theorem fl_RX6_49 : (.fieldLink RX6 49 "MownWords$Word" "length" "I" : Cond) ∈ UW := uw 101 (by decide +kernel) rfl
theorem fl_RX0_95 : (.fieldLink RX0 95 "MownWords$Word" "length" "I" : Cond) ∈ UW := uw 102 (by decide +kernel) rfl
theorem fl_RX8_155 : (.fieldLink RX8 155 "MownWords$Word" "length" "I" : Cond) ∈ UW := uw 103 (by decide +kernel) rfl
theorem fl_RX7_15 : (.fieldLink RX7 15 "MownWords$Word" "wage" "I" : Cond) ∈ UW := uw 104 (by decide +kernel) rfl
theorem fl_RX2_43 : (.fieldLink RX2 43 "MownWords$Word" "wage" "I" : Cond) ∈ UW := uw 105 (by decide +kernel) rfl
theorem fl_RX6_50 : (.fieldLink RX6 50 "MownWords$Word" "wage" "I" : Cond) ∈ UW := uw 106 (by decide +kernel) rfl
theorem fl_RX8_150 : (.fieldLink RX8 150 "MownWords$Word" "wage" "I" : Cond) ∈ UW := uw 107 (by decide +kernel) rfl
theorem fl_RX7_18 : (.fieldLink RX7 18 "MownWords$Word" "letters" "[I" : Cond) ∈ UW := uw 108 (by decide +kernel) rfl
theorem fl_RX6_53 : (.fieldLink RX6 53 "MownWords$Word" "letters" "[I" : Cond) ∈ UW := uw 109 (by decide +kernel) rfl
theorem fl_RX0_102 : (.fieldLink RX0 102 "MownWords$Word" "letters" "[I" : Cond) ∈ UW := uw 110 (by decide +kernel) rfl
theorem fl_RX8_156 : (.fieldLink RX8 156 "MownWords$Word" "letters" "[I" : Cond) ∈ UW := uw 111 (by decide +kernel) rfl
theorem fl_RX0_13 : (.fieldLink RX0 13 "MownWords$Meadow" "settings" "[I" : Cond) ∈ UW := uw 119 (by decide +kernel) rfl
theorem fl_RX8_67 : (.fieldLink RX8 67 "MownWords$Meadow" "settings" "[I" : Cond) ∈ UW := uw 120 (by decide +kernel) rfl
theorem fl_RX0_20 : (.fieldLink RX0 20 "MownWords$Meadow" "strips" "[LMownWords$Strip;" : Cond) ∈ UW := uw 121 (by decide +kernel) rfl
theorem fl_RX8_74 : (.fieldLink RX8 74 "MownWords$Meadow" "strips" "[LMownWords$Strip;" : Cond) ∈ UW := uw 122 (by decide +kernel) rfl
theorem fl_RX0_24 : (.fieldLink RX0 24 "MownWords$Meadow" "stripCount" "I" : Cond) ∈ UW := uw 123 (by decide +kernel) rfl
theorem fl_RX2_27 : (.fieldLink RX2 27 "MownWords$Meadow" "stripCount" "I" : Cond) ∈ UW := uw 124 (by decide +kernel) rfl
theorem fl_RX8_55 : (.fieldLink RX8 55 "MownWords$Meadow" "stripCount" "I" : Cond) ∈ UW := uw 125 (by decide +kernel) rfl
theorem fl_RX0_30 : (.fieldLink RX0 30 "MownWords$Meadow" "words" "[LMownWords$Word;" : Cond) ∈ UW := uw 126 (by decide +kernel) rfl
theorem fl_RX2_35 : (.fieldLink RX2 35 "MownWords$Meadow" "words" "[LMownWords$Word;" : Cond) ∈ UW := uw 127 (by decide +kernel) rfl
theorem fl_RX8_147 : (.fieldLink RX8 147 "MownWords$Meadow" "words" "[LMownWords$Word;" : Cond) ∈ UW := uw 128 (by decide +kernel) rfl
theorem fl_RX0_34 : (.fieldLink RX0 34 "MownWords$Meadow" "wordCount" "I" : Cond) ∈ UW := uw 129 (by decide +kernel) rfl
theorem fl_RX2_32 : (.fieldLink RX2 32 "MownWords$Meadow" "wordCount" "I" : Cond) ∈ UW := uw 130 (by decide +kernel) rfl
theorem fl_RX8_133 : (.fieldLink RX8 133 "MownWords$Meadow" "wordCount" "I" : Cond) ∈ UW := uw 131 (by decide +kernel) rfl
theorem fl_RX0_37 : (.fieldLink RX0 37 "MownWords$Meadow" "foes" "[I" : Cond) ∈ UW := uw 132 (by decide +kernel) rfl
theorem fl_RX8_159 : (.fieldLink RX8 159 "MownWords$Meadow" "foes" "[I" : Cond) ∈ UW := uw 133 (by decide +kernel) rfl
theorem fl_RX0_40 : (.fieldLink RX0 40 "MownWords$Meadow" "hays" "[I" : Cond) ∈ UW := uw 134 (by decide +kernel) rfl
theorem fl_RX8_110 : (.fieldLink RX8 110 "MownWords$Meadow" "hays" "[I" : Cond) ∈ UW := uw 135 (by decide +kernel) rfl
theorem cl_RX8_23 : (.classLink RX8 23 "MownWords$Row" : Cond) ∈ UW := uw 151 (by decide +kernel) rfl
theorem it_RX2 : (.instantiable RX2 4 : Cond) ∈ UW := uw 152 (by decide +kernel) rfl
theorem im_yX2_init : (.instanceMethod yX2_init : Cond) ∈ UW := uw 154 (by decide +kernel) rfl
theorem co_yX2_init : (.code yX2_init cX2_init 1 (Option.none : Option Jvm.ClassFile.FieldType) : Cond) ∈ UW := uw 155 (by decide +kernel) rfl
theorem ml_RX2_3 : (.methodLink RX2 3 objectInit : Cond) ∈ UW := uw 156 (by decide +kernel) rfl
theorem cl_RX2_9 : (.classLink RX2 9 "[[I" : Cond) ∈ UW := uw 157 (by decide +kernel) rfl
theorem fl_RX2_11 : (.fieldLink RX2 11 "MownWords$Row" "worths" "[[I" : Cond) ∈ UW := uw 159 (by decide +kernel) rfl
theorem fl_RX2_16 : (.fieldLink RX2 16 "MownWords$Row" "most" "[I" : Cond) ∈ UW := uw 160 (by decide +kernel) rfl
theorem fl_RX2_20 : (.fieldLink RX2 20 "MownWords$Row" "chosen" "[I" : Cond) ∈ UW := uw 161 (by decide +kernel) rfl
theorem fl_RX2_23 : (.fieldLink RX2 23 "MownWords$Row" "length" "I" : Cond) ∈ UW := uw 162 (by decide +kernel) rfl
theorem cl_RX8_30 : (.classLink RX8 30 "MownWords$Odds" : Cond) ∈ UW := uw 172 (by decide +kernel) rfl
theorem it_RX1 : (.instantiable RX1 3 : Cond) ∈ UW := uw 173 (by decide +kernel) rfl
theorem im_yX1_init : (.instanceMethod yX1_init : Cond) ∈ UW := uw 175 (by decide +kernel) rfl
theorem co_yX1_init : (.code yX1_init cX1_init 1 (Option.none : Option Jvm.ClassFile.FieldType) : Cond) ∈ UW := uw 176 (by decide +kernel) rfl
theorem ml_RX1_3 : (.methodLink RX1 3 objectInit : Cond) ∈ UW := uw 177 (by decide +kernel) rfl
theorem cl_RX1_15 : (.classLink RX1 15 "MownWords$Tally" : Cond) ∈ UW := uw 178 (by decide +kernel) rfl
theorem fl_RX1_9 : (.fieldLink RX1 9 "MownWords$Odds" "closestKeys" "[I" : Cond) ∈ UW := uw 180 (by decide +kernel) rfl
theorem fl_RX1_17 : (.fieldLink RX1 17 "MownWords$Odds" "tallies" "[LMownWords$Tally;" : Cond) ∈ UW := uw 181 (by decide +kernel) rfl
theorem fl_RX1_21 : (.fieldLink RX1 21 "MownWords$Odds" "weights" "[J" : Cond) ∈ UW := uw 182 (by decide +kernel) rfl
theorem ac_long : (.arrayClass .long : Cond) ∈ UW := uw 190 (by decide +kernel) rfl
theorem cl_RX8_37 : (.classLink RX8 37 "MownWords$Tape" : Cond) ∈ UW := uw 191 (by decide +kernel) rfl
theorem it_RX6 : (.instantiable RX6 5 : Cond) ∈ UW := uw 192 (by decide +kernel) rfl
theorem ml_RX8_39 : (.methodLink RX8 39 yX6_init : Cond) ∈ UW := uw 193 (by decide +kernel) rfl
theorem im_yX6_init : (.instanceMethod yX6_init : Cond) ∈ UW := uw 194 (by decide +kernel) rfl
theorem co_yX6_init : (.code yX6_init cX6_init 2 (Option.none : Option Jvm.ClassFile.FieldType) : Cond) ∈ UW := uw 195 (by decide +kernel) rfl
theorem ml_RX6_3 : (.methodLink RX6 3 objectInit : Cond) ∈ UW := uw 196 (by decide +kernel) rfl
theorem cl_RX6_23 : (.classLink RX6 23 "MownWords$Word" : Cond) ∈ UW := uw 197 (by decide +kernel) rfl
theorem fl_RX6_9 : (.fieldLink RX6 9 "MownWords$Tape" "bytes" "[B" : Cond) ∈ UW := uw 199 (by decide +kernel) rfl
theorem fl_RX6_15 : (.fieldLink RX6 15 "MownWords$Tape" "length" "I" : Cond) ∈ UW := uw 200 (by decide +kernel) rfl
theorem fl_RX8_120 : (.fieldLink RX8 120 "MownWords$Tape" "length" "I" : Cond) ∈ UW := uw 201 (by decide +kernel) rfl
theorem fl_RX6_19 : (.fieldLink RX6 19 "MownWords$Tape" "owners" "[I" : Cond) ∈ UW := uw 202 (by decide +kernel) rfl
theorem fl_RX8_123 : (.fieldLink RX8 123 "MownWords$Tape" "owners" "[I" : Cond) ∈ UW := uw 203 (by decide +kernel) rfl
theorem fl_RX6_25 : (.fieldLink RX6 25 "MownWords$Tape" "toldWords" "[LMownWords$Word;" : Cond) ∈ UW := uw 204 (by decide +kernel) rfl
theorem fl_RX8_136 : (.fieldLink RX8 136 "MownWords$Tape" "toldWords" "[LMownWords$Word;" : Cond) ∈ UW := uw 205 (by decide +kernel) rfl
theorem fl_RX6_29 : (.fieldLink RX6 29 "MownWords$Tape" "at" "I" : Cond) ∈ UW := uw 206 (by decide +kernel) rfl
theorem ac_byte : (.arrayClass .byte : Cond) ∈ UW := uw 218 (by decide +kernel) rfl
theorem cl_RX8_44 : (.classLink RX8 44 "MownWords$Sheet" : Cond) ∈ UW := uw 219 (by decide +kernel) rfl
theorem it_RX3 : (.instantiable RX3 3 : Cond) ∈ UW := uw 221 (by decide +kernel) rfl
theorem im_yX3_init : (.instanceMethod yX3_init : Cond) ∈ UW := uw 223 (by decide +kernel) rfl
theorem co_yX3_init : (.code yX3_init cX3_init 1 (Option.none : Option Jvm.ClassFile.FieldType) : Cond) ∈ UW := uw 224 (by decide +kernel) rfl
theorem ml_RX3_3 : (.methodLink RX3 3 objectInit : Cond) ∈ UW := uw 225 (by decide +kernel) rfl
theorem fl_RX3_9 : (.fieldLink RX3 9 "MownWords$Sheet" "lane" "I" : Cond) ∈ UW := uw 226 (by decide +kernel) rfl
theorem fl_RX8_248 : (.fieldLink RX8 248 "MownWords$Sheet" "lane" "I" : Cond) ∈ UW := uw 227 (by decide +kernel) rfl
theorem fl_RX3_15 : (.fieldLink RX3 15 "MownWords$Sheet" "length" "I" : Cond) ∈ UW := uw 228 (by decide +kernel) rfl
theorem fl_RX8_251 : (.fieldLink RX8 251 "MownWords$Sheet" "length" "I" : Cond) ∈ UW := uw 229 (by decide +kernel) rfl
theorem fl_RX3_18 : (.fieldLink RX3 18 "MownWords$Sheet" "items" "[I" : Cond) ∈ UW := uw 230 (by decide +kernel) rfl
theorem fl_RX8_237 : (.fieldLink RX8 237 "MownWords$Sheet" "items" "[I" : Cond) ∈ UW := uw 231 (by decide +kernel) rfl
theorem fl_RX8_12 : (.fieldLink RX8 12 "MownWords" "meadow" "LMownWords$Meadow;" : Cond) ∈ UW := uw 239 (by decide +kernel) rfl
theorem fl_RX8_16 : (.fieldLink RX8 16 "MownWords" "kept" "LMownWords$Meadow;" : Cond) ∈ UW := uw 240 (by decide +kernel) rfl
theorem fl_RX8_19 : (.fieldLink RX8 19 "MownWords" "isKept" "Z" : Cond) ∈ UW := uw 241 (by decide +kernel) rfl
theorem fl_RX8_26 : (.fieldLink RX8 26 "MownWords" "row" "LMownWords$Row;" : Cond) ∈ UW := uw 242 (by decide +kernel) rfl
theorem fl_RX8_33 : (.fieldLink RX8 33 "MownWords" "odds" "LMownWords$Odds;" : Cond) ∈ UW := uw 243 (by decide +kernel) rfl
theorem fl_RX8_40 : (.fieldLink RX8 40 "MownWords" "tape" "LMownWords$Tape;" : Cond) ∈ UW := uw 244 (by decide +kernel) rfl
theorem fl_RX8_46 : (.fieldLink RX8 46 "MownWords" "sheets" "[LMownWords$Sheet;" : Cond) ∈ UW := uw 245 (by decide +kernel) rfl
theorem ml_RL_13 : (.methodLink RL 13 yX8_strip : Cond) ∈ UW := uw 261 (by decide +kernel) rfl
theorem im_yX8_strip : (.instanceMethod yX8_strip : Cond) ∈ UW := uw 262 (by decide +kernel) rfl
theorem se_yX8_strip : (.selects RX8 yX8_strip yX8_strip : Cond) ∈ UW := uw 263 (by decide +kernel) rfl
theorem co_yX8_strip : (.code yX8_strip cX8_strip 2 (Option.some Jvm.ClassFile.FieldType.int) : Cond) ∈ UW := uw 264 (by decide +kernel) rfl
theorem ml_RX8_51 : (.methodLink RX8 51 yX8_isBelow : Cond) ∈ UW := uw 265 (by decide +kernel) rfl
theorem sm_yX8_isBelow : (.static yX8_isBelow : Cond) ∈ UW := uw 266 (by decide +kernel) rfl
theorem co_yX8_isBelow : (.code yX8_isBelow cX8_isBelow 2 (Option.some Jvm.ClassFile.FieldType.boolean) : Cond) ∈ UW := uw 267 (by decide +kernel) rfl
theorem ml_RX8_59 : (.methodLink RX8 59 yX0_addStrip : Cond) ∈ UW := uw 268 (by decide +kernel) rfl
theorem im_yX0_addStrip : (.instanceMethod yX0_addStrip : Cond) ∈ UW := uw 269 (by decide +kernel) rfl
theorem se_yX0_addStrip : (.selects RX0 yX0_addStrip yX0_addStrip : Cond) ∈ UW := uw 270 (by decide +kernel) rfl
theorem co_yX0_addStrip : (.code yX0_addStrip cX0_addStrip 2 (Option.none : Option Jvm.ClassFile.FieldType) : Cond) ∈ UW := uw 271 (by decide +kernel) rfl
theorem ml_RX0_58 : (.methodLink RX0 58 yX4_begin : Cond) ∈ UW := uw 272 (by decide +kernel) rfl
theorem im_yX4_begin : (.instanceMethod yX4_begin : Cond) ∈ UW := uw 273 (by decide +kernel) rfl
theorem se_yX4_begin : (.selects RX4 yX4_begin yX4_begin : Cond) ∈ UW := uw 274 (by decide +kernel) rfl
theorem co_yX4_begin : (.code yX4_begin cX4_begin 2 (Option.none : Option Jvm.ClassFile.FieldType) : Cond) ∈ UW := uw 275 (by decide +kernel) rfl
theorem ml_RX4_19 : (.methodLink RX4 19 yJ7_fill_53178 : Cond) ∈ UW := uw 276 (by decide +kernel) rfl
theorem sm_yJ7_fill_53178 : (.static yJ7_fill_53178 : Cond) ∈ UW := uw 277 (by decide +kernel) rfl
theorem co_yJ7_fill_53178 : (.code yJ7_fill_53178 cJ7_fill_53178 4 (Option.none : Option Jvm.ClassFile.FieldType) : Cond) ∈ UW := uw 278 (by decide +kernel) rfl
theorem ml_RL_18 : (.methodLink RL 18 yX8_set : Cond) ∈ UW := uw 279 (by decide +kernel) rfl
theorem im_yX8_set : (.instanceMethod yX8_set : Cond) ∈ UW := uw 280 (by decide +kernel) rfl
theorem se_yX8_set : (.selects RX8 yX8_set yX8_set : Cond) ∈ UW := uw 281 (by decide +kernel) rfl
theorem co_yX8_set : (.code yX8_set cX8_set 4 (Option.some Jvm.ClassFile.FieldType.int) : Cond) ∈ UW := uw 282 (by decide +kernel) rfl
theorem fl_RX8_63 : (.fieldLink RX8 63 "MownWords" "HIGHEST_SETTINGS" "[I" : Cond) ∈ UW := uw 283 (by decide +kernel) rfl
theorem ml_RL_23 : (.methodLink RL 23 yX8_grass : Cond) ∈ UW := uw 285 (by decide +kernel) rfl
theorem im_yX8_grass : (.instanceMethod yX8_grass : Cond) ∈ UW := uw 286 (by decide +kernel) rfl
theorem se_yX8_grass : (.selects RX8 yX8_grass yX8_grass : Cond) ∈ UW := uw 287 (by decide +kernel) rfl
theorem co_yX8_grass : (.code yX8_grass cX8_grass 3 (Option.some Jvm.ClassFile.FieldType.int) : Cond) ∈ UW := uw 288 (by decide +kernel) rfl
theorem ml_RX8_70 : (.methodLink RX8 70 yX8_isStrip : Cond) ∈ UW := uw 289 (by decide +kernel) rfl
theorem im_yX8_isStrip : (.instanceMethod yX8_isStrip : Cond) ∈ UW := uw 291 (by decide +kernel) rfl
theorem co_yX8_isStrip : (.code yX8_isStrip cX8_isStrip 2 (Option.some Jvm.ClassFile.FieldType.boolean) : Cond) ∈ UW := uw 292 (by decide +kernel) rfl
theorem ml_RL_27 : (.methodLink RL 27 yX8_letter : Cond) ∈ UW := uw 293 (by decide +kernel) rfl
theorem im_yX8_letter : (.instanceMethod yX8_letter : Cond) ∈ UW := uw 294 (by decide +kernel) rfl
theorem se_yX8_letter : (.selects RX8 yX8_letter yX8_letter : Cond) ∈ UW := uw 295 (by decide +kernel) rfl
theorem co_yX8_letter : (.code yX8_letter cX8_letter 2 (Option.some Jvm.ClassFile.FieldType.int) : Cond) ∈ UW := uw 296 (by decide +kernel) rfl
theorem fl_RX8_83 : (.fieldLink RX8 83 "MownWords" "SHAPES" "[I" : Cond) ∈ UW := uw 297 (by decide +kernel) rfl
theorem ml_RL_31 : (.methodLink RL 31 yX8_seen : Cond) ∈ UW := uw 299 (by decide +kernel) rfl
theorem im_yX8_seen : (.instanceMethod yX8_seen : Cond) ∈ UW := uw 300 (by decide +kernel) rfl
theorem se_yX8_seen : (.selects RX8 yX8_seen yX8_seen : Cond) ∈ UW := uw 301 (by decide +kernel) rfl
theorem co_yX8_seen : (.code yX8_seen cX8_seen 2 (Option.some Jvm.ClassFile.FieldType.int) : Cond) ∈ UW := uw 302 (by decide +kernel) rfl
theorem ml_RX8_86 : (.methodLink RX8 86 yX0_seenCells : Cond) ∈ UW := uw 303 (by decide +kernel) rfl
theorem im_yX0_seenCells : (.instanceMethod yX0_seenCells : Cond) ∈ UW := uw 304 (by decide +kernel) rfl
theorem se_yX0_seenCells : (.selects RX0 yX0_seenCells yX0_seenCells : Cond) ∈ UW := uw 305 (by decide +kernel) rfl
theorem co_yX0_seenCells : (.code yX0_seenCells cX0_seenCells 2 (Option.some Jvm.ClassFile.FieldType.int) : Cond) ∈ UW := uw 306 (by decide +kernel) rfl
theorem ml_RX0_83 : (.methodLink RX0 83 yX4_cellsUpTo : Cond) ∈ UW := uw 307 (by decide +kernel) rfl
theorem im_yX4_cellsUpTo : (.instanceMethod yX4_cellsUpTo : Cond) ∈ UW := uw 308 (by decide +kernel) rfl
theorem se_yX4_cellsUpTo : (.selects RX4 yX4_cellsUpTo yX4_cellsUpTo : Cond) ∈ UW := uw 309 (by decide +kernel) rfl
theorem co_yX4_cellsUpTo : (.code yX4_cellsUpTo cX4_cellsUpTo 4 (Option.some Jvm.ClassFile.FieldType.int) : Cond) ∈ UW := uw 310 (by decide +kernel) rfl
theorem ml_RL_35 : (.methodLink RL 35 yX8_reads : Cond) ∈ UW := uw 311 (by decide +kernel) rfl
theorem im_yX8_reads : (.instanceMethod yX8_reads : Cond) ∈ UW := uw 312 (by decide +kernel) rfl
theorem se_yX8_reads : (.selects RX8 yX8_reads yX8_reads : Cond) ∈ UW := uw 313 (by decide +kernel) rfl
theorem co_yX8_reads : (.code yX8_reads cX8_reads 2 (Option.some Jvm.ClassFile.FieldType.int) : Cond) ∈ UW := uw 314 (by decide +kernel) rfl
theorem ml_RX8_90 : (.methodLink RX8 90 yX0_letterOn : Cond) ∈ UW := uw 315 (by decide +kernel) rfl
theorem im_yX0_letterOn : (.instanceMethod yX0_letterOn : Cond) ∈ UW := uw 316 (by decide +kernel) rfl
theorem se_yX0_letterOn : (.selects RX0 yX0_letterOn yX0_letterOn : Cond) ∈ UW := uw 317 (by decide +kernel) rfl
theorem co_yX0_letterOn : (.code yX0_letterOn cX0_letterOn 2 (Option.some Jvm.ClassFile.FieldType.int) : Cond) ∈ UW := uw 318 (by decide +kernel) rfl
theorem ml_RX0_86 : (.methodLink RX0 86 yX0_seenCells : Cond) ∈ UW := uw 319 (by decide +kernel) rfl
theorem ml_RX0_89 : (.methodLink RX0 89 yX0_letterSeenAs : Cond) ∈ UW := uw 320 (by decide +kernel) rfl
theorem im_yX0_letterSeenAs : (.instanceMethod yX0_letterSeenAs : Cond) ∈ UW := uw 321 (by decide +kernel) rfl
theorem se_yX0_letterSeenAs : (.selects RX0 yX0_letterSeenAs yX0_letterSeenAs : Cond) ∈ UW := uw 322 (by decide +kernel) rfl
theorem co_yX0_letterSeenAs : (.code yX0_letterSeenAs cX0_letterSeenAs 3 (Option.some Jvm.ClassFile.FieldType.int) : Cond) ∈ UW := uw 323 (by decide +kernel) rfl
theorem sm_yX8_closestKey : (.static yX8_closestKey : Cond) ∈ UW := uw 325 (by decide +kernel) rfl
theorem co_yX8_closestKey : (.code yX8_closestKey cX8_closestKey 3 (Option.some Jvm.ClassFile.FieldType.int) : Cond) ∈ UW := uw 326 (by decide +kernel) rfl
theorem ml_RX8_217 : (.methodLink RX8 217 yJ6_bitCount_0f7a4 : Cond) ∈ UW := uw 327 (by decide +kernel) rfl
theorem sm_yJ6_bitCount_0f7a4 : (.static yJ6_bitCount_0f7a4 : Cond) ∈ UW := uw 328 (by decide +kernel) rfl
theorem co_yJ6_bitCount_0f7a4 : (.code yJ6_bitCount_0f7a4 cJ6_bitCount_0f7a4 1 (Option.some Jvm.ClassFile.FieldType.int) : Cond) ∈ UW := uw 329 (by decide +kernel) rfl
theorem ck_RJ6_265 : (.constant RJ6 265 (1431655765) : Cond) ∈ UW := uw 330 (by decide +kernel) rfl
theorem ck_RJ6_266 : (.constant RJ6 266 (858993459) : Cond) ∈ UW := uw 331 (by decide +kernel) rfl
theorem ck_RJ6_267 : (.constant RJ6 267 (252645135) : Cond) ∈ UW := uw 332 (by decide +kernel) rfl
theorem ml_RX8_255 : (.methodLink RX8 255 Lib.Math.min.name : Cond) ∈ UW := uw 333 (by decide +kernel) rfl
theorem sm_Lib_Math_min_name : (.static Lib.Math.min.name : Cond) ∈ UW := uw 334 (by decide +kernel) rfl
theorem co_Lib_Math_min_name : (.code Lib.Math.min.name Lib.Math.min.code 2 (Option.some Jvm.ClassFile.FieldType.int) : Cond) ∈ UW := uw 335 (by decide +kernel) rfl
theorem ml_RL_39 : (.methodLink RL 39 yX8_off : Cond) ∈ UW := uw 336 (by decide +kernel) rfl
theorem im_yX8_off : (.instanceMethod yX8_off : Cond) ∈ UW := uw 337 (by decide +kernel) rfl
theorem se_yX8_off : (.selects RX8 yX8_off yX8_off : Cond) ∈ UW := uw 338 (by decide +kernel) rfl
theorem co_yX8_off : (.code yX8_off cX8_off 2 (Option.some Jvm.ClassFile.FieldType.int) : Cond) ∈ UW := uw 339 (by decide +kernel) rfl
theorem ml_RX8_93 : (.methodLink RX8 93 yX8_closestKey : Cond) ∈ UW := uw 340 (by decide +kernel) rfl
theorem ml_RL_43 : (.methodLink RL 43 yX8_mow : Cond) ∈ UW := uw 341 (by decide +kernel) rfl
theorem im_yX8_mow : (.instanceMethod yX8_mow : Cond) ∈ UW := uw 342 (by decide +kernel) rfl
theorem se_yX8_mow : (.selects RX8 yX8_mow yX8_mow : Cond) ∈ UW := uw 343 (by decide +kernel) rfl
theorem co_yX8_mow : (.code yX8_mow cX8_mow 3 (Option.some Jvm.ClassFile.FieldType.int) : Cond) ∈ UW := uw 344 (by decide +kernel) rfl
theorem ml_RX8_96 : (.methodLink RX8 96 yX4_hasGrown : Cond) ∈ UW := uw 345 (by decide +kernel) rfl
theorem im_yX4_hasGrown : (.instanceMethod yX4_hasGrown : Cond) ∈ UW := uw 346 (by decide +kernel) rfl
theorem se_yX4_hasGrown : (.selects RX4 yX4_hasGrown yX4_hasGrown : Cond) ∈ UW := uw 347 (by decide +kernel) rfl
theorem co_yX4_hasGrown : (.code yX4_hasGrown cX4_hasGrown 2 (Option.some Jvm.ClassFile.FieldType.boolean) : Cond) ∈ UW := uw 348 (by decide +kernel) rfl
theorem ml_RX4_35 : (.methodLink RX4 35 yX4_grownCells : Cond) ∈ UW := uw 349 (by decide +kernel) rfl
theorem im_yX4_grownCells : (.instanceMethod yX4_grownCells : Cond) ∈ UW := uw 350 (by decide +kernel) rfl
theorem se_yX4_grownCells : (.selects RX4 yX4_grownCells yX4_grownCells : Cond) ∈ UW := uw 351 (by decide +kernel) rfl
theorem co_yX4_grownCells : (.code yX4_grownCells cX4_grownCells 1 (Option.some Jvm.ClassFile.FieldType.int) : Cond) ∈ UW := uw 352 (by decide +kernel) rfl
theorem ml_RX4_31 : (.methodLink RX4 31 yX4_cellsUpTo : Cond) ∈ UW := uw 353 (by decide +kernel) rfl
theorem ml_RX8_99 : (.methodLink RX8 99 yX0_harvest : Cond) ∈ UW := uw 354 (by decide +kernel) rfl
theorem im_yX0_harvest : (.instanceMethod yX0_harvest : Cond) ∈ UW := uw 355 (by decide +kernel) rfl
theorem se_yX0_harvest : (.selects RX0 yX0_harvest yX0_harvest : Cond) ∈ UW := uw 356 (by decide +kernel) rfl
theorem co_yX0_harvest : (.code yX0_harvest cX0_harvest 4 (Option.some Jvm.ClassFile.FieldType.int) : Cond) ∈ UW := uw 357 (by decide +kernel) rfl
theorem ml_RX0_74 : (.methodLink RX0 74 yX4_grassOf : Cond) ∈ UW := uw 358 (by decide +kernel) rfl
theorem im_yX4_grassOf : (.instanceMethod yX4_grassOf : Cond) ∈ UW := uw 359 (by decide +kernel) rfl
theorem se_yX4_grassOf : (.selects RX4 yX4_grassOf yX4_grassOf : Cond) ∈ UW := uw 360 (by decide +kernel) rfl
theorem co_yX4_grassOf : (.code yX4_grassOf cX4_grassOf 4 (Option.some Jvm.ClassFile.FieldType.int) : Cond) ∈ UW := uw 361 (by decide +kernel) rfl
theorem ml_RX0_77 : (.methodLink RX0 77 yX4_cutDown : Cond) ∈ UW := uw 362 (by decide +kernel) rfl
theorem im_yX4_cutDown : (.instanceMethod yX4_cutDown : Cond) ∈ UW := uw 363 (by decide +kernel) rfl
theorem se_yX4_cutDown : (.selects RX4 yX4_cutDown yX4_cutDown : Cond) ∈ UW := uw 364 (by decide +kernel) rfl
theorem co_yX4_cutDown : (.code yX4_cutDown cX4_cutDown 3 (Option.none : Option Jvm.ClassFile.FieldType) : Cond) ∈ UW := uw 365 (by decide +kernel) rfl
theorem ml_RL_47 : (.methodLink RL 47 yX8_cut : Cond) ∈ UW := uw 366 (by decide +kernel) rfl
theorem im_yX8_cut : (.instanceMethod yX8_cut : Cond) ∈ UW := uw 367 (by decide +kernel) rfl
theorem se_yX8_cut : (.selects RX8 yX8_cut yX8_cut : Cond) ∈ UW := uw 368 (by decide +kernel) rfl
theorem co_yX8_cut : (.code yX8_cut cX8_cut 2 (Option.some Jvm.ClassFile.FieldType.int) : Cond) ∈ UW := uw 369 (by decide +kernel) rfl
theorem ml_RX8_103 : (.methodLink RX8 103 yX4_grownCells : Cond) ∈ UW := uw 370 (by decide +kernel) rfl
theorem ml_RL_51 : (.methodLink RL 51 yX8_fault : Cond) ∈ UW := uw 371 (by decide +kernel) rfl
theorem im_yX8_fault : (.instanceMethod yX8_fault : Cond) ∈ UW := uw 372 (by decide +kernel) rfl
theorem se_yX8_fault : (.selects RX8 yX8_fault yX8_fault : Cond) ∈ UW := uw 373 (by decide +kernel) rfl
theorem co_yX8_fault : (.code yX8_fault cX8_fault 6 (Option.some Jvm.ClassFile.FieldType.int) : Cond) ∈ UW := uw 374 (by decide +kernel) rfl
theorem ml_RL_56 : (.methodLink RL 56 yX8_weeks : Cond) ∈ UW := uw 375 (by decide +kernel) rfl
theorem im_yX8_weeks : (.instanceMethod yX8_weeks : Cond) ∈ UW := uw 376 (by decide +kernel) rfl
theorem se_yX8_weeks : (.selects RX8 yX8_weeks yX8_weeks : Cond) ∈ UW := uw 377 (by decide +kernel) rfl
theorem co_yX8_weeks : (.code yX8_weeks cX8_weeks 2 (Option.some Jvm.ClassFile.FieldType.int) : Cond) ∈ UW := uw 378 (by decide +kernel) rfl
theorem ml_RX8_107 : (.methodLink RX8 107 yX0_growFor : Cond) ∈ UW := uw 379 (by decide +kernel) rfl
theorem im_yX0_growFor : (.instanceMethod yX0_growFor : Cond) ∈ UW := uw 380 (by decide +kernel) rfl
theorem se_yX0_growFor : (.selects RX0 yX0_growFor yX0_growFor : Cond) ∈ UW := uw 381 (by decide +kernel) rfl
theorem co_yX0_growFor : (.code yX0_growFor cX0_growFor 4 (Option.some Jvm.ClassFile.FieldType.int) : Cond) ∈ UW := uw 382 (by decide +kernel) rfl
theorem ml_RX0_71 : (.methodLink RX0 71 yX4_growBy : Cond) ∈ UW := uw 383 (by decide +kernel) rfl
theorem im_yX4_growBy : (.instanceMethod yX4_growBy : Cond) ∈ UW := uw 384 (by decide +kernel) rfl
theorem se_yX4_growBy : (.selects RX4 yX4_growBy yX4_growBy : Cond) ∈ UW := uw 385 (by decide +kernel) rfl
theorem co_yX4_growBy : (.code yX4_growBy cX4_growBy 4 (Option.some Jvm.ClassFile.FieldType.int) : Cond) ∈ UW := uw 386 (by decide +kernel) rfl
theorem ml_RX4_39 : (.methodLink RX4 39 Lib.Math.min.name : Cond) ∈ UW := uw 387 (by decide +kernel) rfl
theorem ml_RL_60 : (.methodLink RL 60 yX8_hay : Cond) ∈ UW := uw 388 (by decide +kernel) rfl
theorem im_yX8_hay : (.instanceMethod yX8_hay : Cond) ∈ UW := uw 389 (by decide +kernel) rfl
theorem se_yX8_hay : (.selects RX8 yX8_hay yX8_hay : Cond) ∈ UW := uw 390 (by decide +kernel) rfl
theorem co_yX8_hay : (.code yX8_hay cX8_hay 2 (Option.some Jvm.ClassFile.FieldType.int) : Cond) ∈ UW := uw 391 (by decide +kernel) rfl
theorem ml_RL_66 : (.methodLink RL 66 yX8_type : Cond) ∈ UW := uw 392 (by decide +kernel) rfl
theorem im_yX8_type : (.instanceMethod yX8_type : Cond) ∈ UW := uw 393 (by decide +kernel) rfl
theorem se_yX8_type : (.selects RX8 yX8_type yX8_type : Cond) ∈ UW := uw 394 (by decide +kernel) rfl
theorem co_yX8_type : (.code yX8_type cX8_type 4 (Option.some Jvm.ClassFile.FieldType.int) : Cond) ∈ UW := uw 395 (by decide +kernel) rfl
theorem ml_RX8_113 : (.methodLink RX8 113 yX6_append : Cond) ∈ UW := uw 396 (by decide +kernel) rfl
theorem im_yX6_append : (.instanceMethod yX6_append : Cond) ∈ UW := uw 397 (by decide +kernel) rfl
theorem se_yX6_append : (.selects RX6 yX6_append yX6_append : Cond) ∈ UW := uw 398 (by decide +kernel) rfl
theorem co_yX6_append : (.code yX6_append cX6_append 6 (Option.some Jvm.ClassFile.FieldType.int) : Cond) ∈ UW := uw 399 (by decide +kernel) rfl
theorem ml_RL_71 : (.methodLink RL 71 yX8_strips : Cond) ∈ UW := uw 400 (by decide +kernel) rfl
theorem im_yX8_strips : (.instanceMethod yX8_strips : Cond) ∈ UW := uw 401 (by decide +kernel) rfl
theorem se_yX8_strips : (.selects RX8 yX8_strips yX8_strips : Cond) ∈ UW := uw 402 (by decide +kernel) rfl
theorem co_yX8_strips : (.code yX8_strips cX8_strips 2 (Option.some Jvm.ClassFile.FieldType.int) : Cond) ∈ UW := uw 403 (by decide +kernel) rfl
theorem ml_RX8_117 : (.methodLink RX8 117 yX6_readOwners : Cond) ∈ UW := uw 404 (by decide +kernel) rfl
theorem im_yX6_readOwners : (.instanceMethod yX6_readOwners : Cond) ∈ UW := uw 405 (by decide +kernel) rfl
theorem se_yX6_readOwners : (.selects RX6 yX6_readOwners yX6_readOwners : Cond) ∈ UW := uw 406 (by decide +kernel) rfl
theorem co_yX6_readOwners : (.code yX6_readOwners cX6_readOwners 4 (Option.some Jvm.ClassFile.FieldType.int) : Cond) ∈ UW := uw 407 (by decide +kernel) rfl
theorem ml_RX6_37 : (.methodLink RX6 37 yX6_faultAt : Cond) ∈ UW := uw 409 (by decide +kernel) rfl
theorem sm_yX6_faultAt : (.static yX6_faultAt : Cond) ∈ UW := uw 410 (by decide +kernel) rfl
theorem co_yX6_faultAt : (.code yX6_faultAt cX6_faultAt 1 (Option.some Jvm.ClassFile.FieldType.int) : Cond) ∈ UW := uw 411 (by decide +kernel) rfl
theorem ml_RX8_126 : (.methodLink RX8 126 yX0_replaceStrips : Cond) ∈ UW := uw 412 (by decide +kernel) rfl
theorem im_yX0_replaceStrips : (.instanceMethod yX0_replaceStrips : Cond) ∈ UW := uw 413 (by decide +kernel) rfl
theorem se_yX0_replaceStrips : (.selects RX0 yX0_replaceStrips yX0_replaceStrips : Cond) ∈ UW := uw 414 (by decide +kernel) rfl
theorem co_yX0_replaceStrips : (.code yX0_replaceStrips cX0_replaceStrips 4 (Option.none : Option Jvm.ClassFile.FieldType) : Cond) ∈ UW := uw 415 (by decide +kernel) rfl
theorem ml_RX0_62 : (.methodLink RX0 62 yX0_addStrip : Cond) ∈ UW := uw 416 (by decide +kernel) rfl
theorem ml_RL_76 : (.methodLink RL 76 yX8_words : Cond) ∈ UW := uw 417 (by decide +kernel) rfl
theorem im_yX8_words : (.instanceMethod yX8_words : Cond) ∈ UW := uw 418 (by decide +kernel) rfl
theorem se_yX8_words : (.selects RX8 yX8_words yX8_words : Cond) ∈ UW := uw 419 (by decide +kernel) rfl
theorem co_yX8_words : (.code yX8_words cX8_words 3 (Option.some Jvm.ClassFile.FieldType.int) : Cond) ∈ UW := uw 420 (by decide +kernel) rfl
theorem ml_RX8_130 : (.methodLink RX8 130 yX6_readWords : Cond) ∈ UW := uw 421 (by decide +kernel) rfl
theorem im_yX6_readWords : (.instanceMethod yX6_readWords : Cond) ∈ UW := uw 422 (by decide +kernel) rfl
theorem se_yX6_readWords : (.selects RX6 yX6_readWords yX6_readWords : Cond) ∈ UW := uw 423 (by decide +kernel) rfl
theorem co_yX6_readWords : (.code yX6_readWords cX6_readWords 4 (Option.some Jvm.ClassFile.FieldType.int) : Cond) ∈ UW := uw 424 (by decide +kernel) rfl
theorem ml_RX6_41 : (.methodLink RX6 41 yX6_readWord : Cond) ∈ UW := uw 425 (by decide +kernel) rfl
theorem im_yX6_readWord : (.instanceMethod yX6_readWord : Cond) ∈ UW := uw 427 (by decide +kernel) rfl
theorem co_yX6_readWord : (.code yX6_readWord cX6_readWord 2 (Option.some Jvm.ClassFile.FieldType.int) : Cond) ∈ UW := uw 428 (by decide +kernel) rfl
theorem ml_RX6_45 : (.methodLink RX6 45 yX6_nextSign : Cond) ∈ UW := uw 429 (by decide +kernel) rfl
theorem im_yX6_nextSign : (.instanceMethod yX6_nextSign : Cond) ∈ UW := uw 431 (by decide +kernel) rfl
theorem co_yX6_nextSign : (.code yX6_nextSign cX6_nextSign 1 (Option.some Jvm.ClassFile.FieldType.int) : Cond) ∈ UW := uw 432 (by decide +kernel) rfl
theorem ml_RX6_56 : (.methodLink RX6 56 yX6_readPay : Cond) ∈ UW := uw 433 (by decide +kernel) rfl
theorem im_yX6_readPay : (.instanceMethod yX6_readPay : Cond) ∈ UW := uw 435 (by decide +kernel) rfl
theorem co_yX6_readPay : (.code yX6_readPay cX6_readPay 4 (Option.some Jvm.ClassFile.FieldType.int) : Cond) ∈ UW := uw 436 (by decide +kernel) rfl
theorem ml_RX6_59 : (.methodLink RX6 59 yX6_isFigure : Cond) ∈ UW := uw 437 (by decide +kernel) rfl
theorem sm_yX6_isFigure : (.static yX6_isFigure : Cond) ∈ UW := uw 438 (by decide +kernel) rfl
theorem co_yX6_isFigure : (.code yX6_isFigure cX6_isFigure 1 (Option.some Jvm.ClassFile.FieldType.boolean) : Cond) ∈ UW := uw 439 (by decide +kernel) rfl
theorem ml_RX6_63 : (.methodLink RX6 63 Lib.Math.min.name : Cond) ∈ UW := uw 440 (by decide +kernel) rfl
theorem ml_RX8_140 : (.methodLink RX8 140 yX0_addWord : Cond) ∈ UW := uw 441 (by decide +kernel) rfl
theorem im_yX0_addWord : (.instanceMethod yX0_addWord : Cond) ∈ UW := uw 442 (by decide +kernel) rfl
theorem se_yX0_addWord : (.selects RX0 yX0_addWord yX0_addWord : Cond) ∈ UW := uw 443 (by decide +kernel) rfl
theorem co_yX0_addWord : (.code yX0_addWord cX0_addWord 2 (Option.none : Option Jvm.ClassFile.FieldType) : Cond) ∈ UW := uw 444 (by decide +kernel) rfl
theorem ml_RX0_55 : (.methodLink RX0 55 yX7_copyFrom : Cond) ∈ UW := uw 445 (by decide +kernel) rfl
theorem im_yX7_copyFrom : (.instanceMethod yX7_copyFrom : Cond) ∈ UW := uw 446 (by decide +kernel) rfl
theorem se_yX7_copyFrom : (.selects RX7 yX7_copyFrom yX7_copyFrom : Cond) ∈ UW := uw 447 (by decide +kernel) rfl
theorem co_yX7_copyFrom : (.code yX7_copyFrom cX7_copyFrom 2 (Option.none : Option Jvm.ClassFile.FieldType) : Cond) ∈ UW := uw 448 (by decide +kernel) rfl
theorem ml_RX7_22 : (.methodLink RX7 22 arraycopyName : Cond) ∈ UW := uw 449 (by decide +kernel) rfl
theorem ml_RL_80 : (.methodLink RL 80 yX8_told : Cond) ∈ UW := uw 450 (by decide +kernel) rfl
theorem im_yX8_told : (.instanceMethod yX8_told : Cond) ∈ UW := uw 451 (by decide +kernel) rfl
theorem se_yX8_told : (.selects RX8 yX8_told yX8_told : Cond) ∈ UW := uw 452 (by decide +kernel) rfl
theorem co_yX8_told : (.code yX8_told cX8_told 4 (Option.some Jvm.ClassFile.FieldType.int) : Cond) ∈ UW := uw 453 (by decide +kernel) rfl
theorem ml_RX8_144 : (.methodLink RX8 144 yX8_isWord : Cond) ∈ UW := uw 454 (by decide +kernel) rfl
theorem im_yX8_isWord : (.instanceMethod yX8_isWord : Cond) ∈ UW := uw 456 (by decide +kernel) rfl
theorem co_yX8_isWord : (.code yX8_isWord cX8_isWord 2 (Option.some Jvm.ClassFile.FieldType.boolean) : Cond) ∈ UW := uw 457 (by decide +kernel) rfl
theorem ml_RL_84 : (.methodLink RL 84 yX8_pay : Cond) ∈ UW := uw 458 (by decide +kernel) rfl
theorem im_yX8_pay : (.instanceMethod yX8_pay : Cond) ∈ UW := uw 459 (by decide +kernel) rfl
theorem se_yX8_pay : (.selects RX8 yX8_pay yX8_pay : Cond) ∈ UW := uw 460 (by decide +kernel) rfl
theorem co_yX8_pay : (.code yX8_pay cX8_pay 4 (Option.some Jvm.ClassFile.FieldType.int) : Cond) ∈ UW := uw 461 (by decide +kernel) rfl
theorem ml_RL_88 : (.methodLink RL 88 yX8_feud : Cond) ∈ UW := uw 462 (by decide +kernel) rfl
theorem im_yX8_feud : (.instanceMethod yX8_feud : Cond) ∈ UW := uw 463 (by decide +kernel) rfl
theorem se_yX8_feud : (.selects RX8 yX8_feud yX8_feud : Cond) ∈ UW := uw 464 (by decide +kernel) rfl
theorem co_yX8_feud : (.code yX8_feud cX8_feud 5 (Option.some Jvm.ClassFile.FieldType.int) : Cond) ∈ UW := uw 465 (by decide +kernel) rfl
theorem ml_RX8_162 : (.methodLink RX8 162 yX0_setFoe : Cond) ∈ UW := uw 466 (by decide +kernel) rfl
theorem im_yX0_setFoe : (.instanceMethod yX0_setFoe : Cond) ∈ UW := uw 467 (by decide +kernel) rfl
theorem se_yX0_setFoe : (.selects RX0 yX0_setFoe yX0_setFoe : Cond) ∈ UW := uw 468 (by decide +kernel) rfl
theorem co_yX0_setFoe : (.code yX0_setFoe cX0_setFoe 4 (Option.none : Option Jvm.ClassFile.FieldType) : Cond) ∈ UW := uw 469 (by decide +kernel) rfl
theorem ml_RL_93 : (.methodLink RL 93 yX8_count : Cond) ∈ UW := uw 470 (by decide +kernel) rfl
theorem im_yX8_count : (.instanceMethod yX8_count : Cond) ∈ UW := uw 471 (by decide +kernel) rfl
theorem se_yX8_count : (.selects RX8 yX8_count yX8_count : Cond) ∈ UW := uw 472 (by decide +kernel) rfl
theorem co_yX8_count : (.code yX8_count cX8_count 2 (Option.some Jvm.ClassFile.FieldType.int) : Cond) ∈ UW := uw 473 (by decide +kernel) rfl
theorem ml_RX8_166 : (.methodLink RX8 166 yX0_feudCount : Cond) ∈ UW := uw 474 (by decide +kernel) rfl
theorem im_yX0_feudCount : (.instanceMethod yX0_feudCount : Cond) ∈ UW := uw 475 (by decide +kernel) rfl
theorem se_yX0_feudCount : (.selects RX0 yX0_feudCount yX0_feudCount : Cond) ∈ UW := uw 476 (by decide +kernel) rfl
theorem co_yX0_feudCount : (.code yX0_feudCount cX0_feudCount 3 (Option.some Jvm.ClassFile.FieldType.int) : Cond) ∈ UW := uw 477 (by decide +kernel) rfl
theorem ml_RX0_65 : (.methodLink RX0 65 yJ6_bitCount_0f7a4 : Cond) ∈ UW := uw 478 (by decide +kernel) rfl
theorem ml_RX8_169 : (.methodLink RX8 169 yX0_allHay : Cond) ∈ UW := uw 479 (by decide +kernel) rfl
theorem im_yX0_allHay : (.instanceMethod yX0_allHay : Cond) ∈ UW := uw 480 (by decide +kernel) rfl
theorem se_yX0_allHay : (.selects RX0 yX0_allHay yX0_allHay : Cond) ∈ UW := uw 481 (by decide +kernel) rfl
theorem co_yX0_allHay : (.code yX0_allHay cX0_allHay 3 (Option.some Jvm.ClassFile.FieldType.int) : Cond) ∈ UW := uw 482 (by decide +kernel) rfl
theorem ml_RL_97 : (.methodLink RL 97 yX8_written : Cond) ∈ UW := uw 483 (by decide +kernel) rfl
theorem im_yX8_written : (.instanceMethod yX8_written : Cond) ∈ UW := uw 484 (by decide +kernel) rfl
theorem se_yX8_written : (.selects RX8 yX8_written yX8_written : Cond) ∈ UW := uw 485 (by decide +kernel) rfl
theorem co_yX8_written : (.code yX8_written cX8_written 3 (Option.some Jvm.ClassFile.FieldType.int) : Cond) ∈ UW := uw 486 (by decide +kernel) rfl
theorem ml_RX8_172 : (.methodLink RX8 172 yX0_isWritten : Cond) ∈ UW := uw 487 (by decide +kernel) rfl
theorem im_yX0_isWritten : (.instanceMethod yX0_isWritten : Cond) ∈ UW := uw 488 (by decide +kernel) rfl
theorem se_yX0_isWritten : (.selects RX0 yX0_isWritten yX0_isWritten : Cond) ∈ UW := uw 489 (by decide +kernel) rfl
theorem co_yX0_isWritten : (.code yX0_isWritten cX0_isWritten 6 (Option.some Jvm.ClassFile.FieldType.boolean) : Cond) ∈ UW := uw 490 (by decide +kernel) rfl
theorem ml_RX0_98 : (.methodLink RX0 98 yX0_hasRoom : Cond) ∈ UW := uw 491 (by decide +kernel) rfl
theorem im_yX0_hasRoom : (.instanceMethod yX0_hasRoom : Cond) ∈ UW := uw 492 (by decide +kernel) rfl
theorem se_yX0_hasRoom : (.selects RX0 yX0_hasRoom yX0_hasRoom : Cond) ∈ UW := uw 493 (by decide +kernel) rfl
theorem co_yX0_hasRoom : (.code yX0_hasRoom cX0_hasRoom 3 (Option.some Jvm.ClassFile.FieldType.boolean) : Cond) ∈ UW := uw 494 (by decide +kernel) rfl
theorem ml_RL_101 : (.methodLink RL 101 yX8_read : Cond) ∈ UW := uw 495 (by decide +kernel) rfl
theorem im_yX8_read : (.instanceMethod yX8_read : Cond) ∈ UW := uw 496 (by decide +kernel) rfl
theorem se_yX8_read : (.selects RX8 yX8_read yX8_read : Cond) ∈ UW := uw 497 (by decide +kernel) rfl
theorem co_yX8_read : (.code yX8_read cX8_read 2 (Option.some Jvm.ClassFile.FieldType.int) : Cond) ∈ UW := uw 498 (by decide +kernel) rfl
theorem ml_RX8_176 : (.methodLink RX8 176 yX8_isRowPlace : Cond) ∈ UW := uw 499 (by decide +kernel) rfl
theorem sm_yX8_isRowPlace : (.static yX8_isRowPlace : Cond) ∈ UW := uw 500 (by decide +kernel) rfl
theorem co_yX8_isRowPlace : (.code yX8_isRowPlace cX8_isRowPlace 1 (Option.some Jvm.ClassFile.FieldType.boolean) : Cond) ∈ UW := uw 501 (by decide +kernel) rfl
theorem ml_RX8_179 : (.methodLink RX8 179 yX2_weighWritten : Cond) ∈ UW := uw 502 (by decide +kernel) rfl
theorem im_yX2_weighWritten : (.instanceMethod yX2_weighWritten : Cond) ∈ UW := uw 503 (by decide +kernel) rfl
theorem se_yX2_weighWritten : (.selects RX2 yX2_weighWritten yX2_weighWritten : Cond) ∈ UW := uw 504 (by decide +kernel) rfl
theorem co_yX2_weighWritten : (.code yX2_weighWritten cX2_weighWritten 5 (Option.none : Option Jvm.ClassFile.FieldType) : Cond) ∈ UW := uw 505 (by decide +kernel) rfl
theorem ml_RX2_39 : (.methodLink RX2 39 yX0_isWritten : Cond) ∈ UW := uw 506 (by decide +kernel) rfl
theorem ck_RX2_48 : (.constant RX2 48 (-1000000) : Cond) ∈ UW := uw 507 (by decide +kernel) rfl
theorem ml_RX8_183 : (.methodLink RX8 183 yX2_choose : Cond) ∈ UW := uw 508 (by decide +kernel) rfl
theorem im_yX2_choose : (.instanceMethod yX2_choose : Cond) ∈ UW := uw 509 (by decide +kernel) rfl
theorem se_yX2_choose : (.selects RX2 yX2_choose yX2_choose : Cond) ∈ UW := uw 510 (by decide +kernel) rfl
theorem co_yX2_choose : (.code yX2_choose cX2_choose 5 (Option.none : Option Jvm.ClassFile.FieldType) : Cond) ∈ UW := uw 511 (by decide +kernel) rfl
theorem ml_RX2_57 : (.methodLink RX2 57 yX2_sumUp : Cond) ∈ UW := uw 512 (by decide +kernel) rfl
theorem im_yX2_sumUp : (.instanceMethod yX2_sumUp : Cond) ∈ UW := uw 514 (by decide +kernel) rfl
theorem co_yX2_sumUp : (.code yX2_sumUp cX2_sumUp 4 (Option.none : Option Jvm.ClassFile.FieldType) : Cond) ∈ UW := uw 515 (by decide +kernel) rfl
theorem ml_RX2_70 : (.methodLink RX2 70 yX2_mostBy : Cond) ∈ UW := uw 516 (by decide +kernel) rfl
theorem im_yX2_mostBy : (.instanceMethod yX2_mostBy : Cond) ∈ UW := uw 518 (by decide +kernel) rfl
theorem co_yX2_mostBy : (.code yX2_mostBy cX2_mostBy 4 (Option.some Jvm.ClassFile.FieldType.int) : Cond) ∈ UW := uw 519 (by decide +kernel) rfl
theorem ml_RX2_74 : (.methodLink RX2 74 Lib.Math.max.name : Cond) ∈ UW := uw 520 (by decide +kernel) rfl
theorem sm_Lib_Math_max_name : (.static Lib.Math.max.name : Cond) ∈ UW := uw 521 (by decide +kernel) rfl
theorem co_Lib_Math_max_name : (.code Lib.Math.max.name Lib.Math.max.code 2 (Option.some Jvm.ClassFile.FieldType.int) : Cond) ∈ UW := uw 522 (by decide +kernel) rfl
theorem ml_RX2_61 : (.methodLink RX2 61 yX2_firstForMost : Cond) ∈ UW := uw 523 (by decide +kernel) rfl
theorem im_yX2_firstForMost : (.instanceMethod yX2_firstForMost : Cond) ∈ UW := uw 525 (by decide +kernel) rfl
theorem co_yX2_firstForMost : (.code yX2_firstForMost cX2_firstForMost 4 (Option.some Jvm.ClassFile.FieldType.int) : Cond) ∈ UW := uw 526 (by decide +kernel) rfl
theorem ml_RX8_186 : (.methodLink RX8 186 yX2_answer : Cond) ∈ UW := uw 527 (by decide +kernel) rfl
theorem im_yX2_answer : (.instanceMethod yX2_answer : Cond) ∈ UW := uw 528 (by decide +kernel) rfl
theorem se_yX2_answer : (.selects RX2 yX2_answer yX2_answer : Cond) ∈ UW := uw 529 (by decide +kernel) rfl
theorem co_yX2_answer : (.code yX2_answer cX2_answer 2 (Option.some Jvm.ClassFile.FieldType.int) : Cond) ∈ UW := uw 530 (by decide +kernel) rfl
theorem ml_RL_105 : (.methodLink RL 105 yX8_nearest : Cond) ∈ UW := uw 532 (by decide +kernel) rfl
theorem im_yX8_nearest : (.instanceMethod yX8_nearest : Cond) ∈ UW := uw 533 (by decide +kernel) rfl
theorem se_yX8_nearest : (.selects RX8 yX8_nearest yX8_nearest : Cond) ∈ UW := uw 534 (by decide +kernel) rfl
theorem co_yX8_nearest : (.code yX8_nearest cX8_nearest 7 (Option.some Jvm.ClassFile.FieldType.int) : Cond) ∈ UW := uw 535 (by decide +kernel) rfl
theorem ml_RX8_189 : (.methodLink RX8 189 yX0_hasRoom : Cond) ∈ UW := uw 536 (by decide +kernel) rfl
theorem ml_RX8_193 : (.methodLink RX8 193 yX0_cellsOff : Cond) ∈ UW := uw 537 (by decide +kernel) rfl
theorem im_yX0_cellsOff : (.instanceMethod yX0_cellsOff : Cond) ∈ UW := uw 538 (by decide +kernel) rfl
theorem se_yX0_cellsOff : (.selects RX0 yX0_cellsOff yX0_cellsOff : Cond) ∈ UW := uw 539 (by decide +kernel) rfl
theorem co_yX0_cellsOff : (.code yX0_cellsOff cX0_cellsOff 5 (Option.some Jvm.ClassFile.FieldType.int) : Cond) ∈ UW := uw 540 (by decide +kernel) rfl
theorem ml_RL_109 : (.methodLink RL 109 yX8_may : Cond) ∈ UW := uw 542 (by decide +kernel) rfl
theorem im_yX8_may : (.instanceMethod yX8_may : Cond) ∈ UW := uw 543 (by decide +kernel) rfl
theorem se_yX8_may : (.selects RX8 yX8_may yX8_may : Cond) ∈ UW := uw 544 (by decide +kernel) rfl
theorem co_yX8_may : (.code yX8_may cX8_may 3 (Option.some Jvm.ClassFile.FieldType.int) : Cond) ∈ UW := uw 545 (by decide +kernel) rfl
theorem ml_RX8_197 : (.methodLink RX8 197 yX0_isAllowed : Cond) ∈ UW := uw 546 (by decide +kernel) rfl
theorem im_yX0_isAllowed : (.instanceMethod yX0_isAllowed : Cond) ∈ UW := uw 547 (by decide +kernel) rfl
theorem se_yX0_isAllowed : (.selects RX0 yX0_isAllowed yX0_isAllowed : Cond) ∈ UW := uw 548 (by decide +kernel) rfl
theorem co_yX0_isAllowed : (.code yX0_isAllowed cX0_isAllowed 4 (Option.some Jvm.ClassFile.FieldType.boolean) : Cond) ∈ UW := uw 549 (by decide +kernel) rfl
theorem ml_RX0_108 : (.methodLink RX0 108 yX0_hasFeud : Cond) ∈ UW := uw 550 (by decide +kernel) rfl
theorem im_yX0_hasFeud : (.instanceMethod yX0_hasFeud : Cond) ∈ UW := uw 552 (by decide +kernel) rfl
theorem co_yX0_hasFeud : (.code yX0_hasFeud cX0_hasFeud 6 (Option.some Jvm.ClassFile.FieldType.boolean) : Cond) ∈ UW := uw 553 (by decide +kernel) rfl
theorem ml_RX0_111 : (.methodLink RX0 111 yX0_wouldRead : Cond) ∈ UW := uw 554 (by decide +kernel) rfl
theorem im_yX0_wouldRead : (.instanceMethod yX0_wouldRead : Cond) ∈ UW := uw 556 (by decide +kernel) rfl
theorem co_yX0_wouldRead : (.code yX0_wouldRead cX0_wouldRead 4 (Option.some Jvm.ClassFile.FieldType.boolean) : Cond) ∈ UW := uw 557 (by decide +kernel) rfl
theorem ml_RX0_115 : (.methodLink RX0 115 yX4_hasGrown : Cond) ∈ UW := uw 558 (by decide +kernel) rfl
theorem ml_RL_113 : (.methodLink RL 113 yX8_lost : Cond) ∈ UW := uw 559 (by decide +kernel) rfl
theorem im_yX8_lost : (.instanceMethod yX8_lost : Cond) ∈ UW := uw 560 (by decide +kernel) rfl
theorem se_yX8_lost : (.selects RX8 yX8_lost yX8_lost : Cond) ∈ UW := uw 561 (by decide +kernel) rfl
theorem co_yX8_lost : (.code yX8_lost cX8_lost 3 (Option.some Jvm.ClassFile.FieldType.int) : Cond) ∈ UW := uw 562 (by decide +kernel) rfl
theorem ml_RX8_200 : (.methodLink RX8 200 yX0_lossBy : Cond) ∈ UW := uw 563 (by decide +kernel) rfl
theorem im_yX0_lossBy : (.instanceMethod yX0_lossBy : Cond) ∈ UW := uw 564 (by decide +kernel) rfl
theorem se_yX0_lossBy : (.selects RX0 yX0_lossBy yX0_lossBy : Cond) ∈ UW := uw 565 (by decide +kernel) rfl
theorem co_yX0_lossBy : (.code yX0_lossBy cX0_lossBy 5 (Option.some Jvm.ClassFile.FieldType.int) : Cond) ∈ UW := uw 566 (by decide +kernel) rfl
theorem ml_RX0_119 : (.methodLink RX0 119 yX0_lossOn : Cond) ∈ UW := uw 567 (by decide +kernel) rfl
theorem im_yX0_lossOn : (.instanceMethod yX0_lossOn : Cond) ∈ UW := uw 569 (by decide +kernel) rfl
theorem co_yX0_lossOn : (.code yX0_lossOn cX0_lossOn 4 (Option.some Jvm.ClassFile.FieldType.int) : Cond) ∈ UW := uw 570 (by decide +kernel) rfl
theorem ml_RX0_123 : (.methodLink RX0 123 yX4_grownCells : Cond) ∈ UW := uw 571 (by decide +kernel) rfl
theorem ml_RL_117 : (.methodLink RL 117 yX8_plan : Cond) ∈ UW := uw 572 (by decide +kernel) rfl
theorem im_yX8_plan : (.instanceMethod yX8_plan : Cond) ∈ UW := uw 573 (by decide +kernel) rfl
theorem se_yX8_plan : (.selects RX8 yX8_plan yX8_plan : Cond) ∈ UW := uw 574 (by decide +kernel) rfl
theorem co_yX8_plan : (.code yX8_plan cX8_plan 2 (Option.some Jvm.ClassFile.FieldType.int) : Cond) ∈ UW := uw 575 (by decide +kernel) rfl
theorem ml_RX8_203 : (.methodLink RX8 203 yX2_weighAllowed : Cond) ∈ UW := uw 576 (by decide +kernel) rfl
theorem im_yX2_weighAllowed : (.instanceMethod yX2_weighAllowed : Cond) ∈ UW := uw 577 (by decide +kernel) rfl
theorem se_yX2_weighAllowed : (.selects RX2 yX2_weighAllowed yX2_weighAllowed : Cond) ∈ UW := uw 578 (by decide +kernel) rfl
theorem co_yX2_weighAllowed : (.code yX2_weighAllowed cX2_weighAllowed 5 (Option.none : Option Jvm.ClassFile.FieldType) : Cond) ∈ UW := uw 579 (by decide +kernel) rfl
theorem ml_RX2_49 : (.methodLink RX2 49 yX0_isAllowed : Cond) ∈ UW := uw 580 (by decide +kernel) rfl
theorem ml_RX2_53 : (.methodLink RX2 53 yX0_lossBy : Cond) ∈ UW := uw 581 (by decide +kernel) rfl
theorem ml_RL_121 : (.methodLink RL 121 yX8_write : Cond) ∈ UW := uw 582 (by decide +kernel) rfl
theorem im_yX8_write : (.instanceMethod yX8_write : Cond) ∈ UW := uw 583 (by decide +kernel) rfl
theorem se_yX8_write : (.selects RX8 yX8_write yX8_write : Cond) ∈ UW := uw 584 (by decide +kernel) rfl
theorem co_yX8_write : (.code yX8_write cX8_write 6 (Option.some Jvm.ClassFile.FieldType.int) : Cond) ∈ UW := uw 585 (by decide +kernel) rfl
theorem ml_RL_125 : (.methodLink RL 125 yX8_share : Cond) ∈ UW := uw 586 (by decide +kernel) rfl
theorem im_yX8_share : (.instanceMethod yX8_share : Cond) ∈ UW := uw 587 (by decide +kernel) rfl
theorem se_yX8_share : (.selects RX8 yX8_share yX8_share : Cond) ∈ UW := uw 588 (by decide +kernel) rfl
theorem co_yX8_share : (.code yX8_share cX8_share 6 (Option.some Jvm.ClassFile.FieldType.int) : Cond) ∈ UW := uw 589 (by decide +kernel) rfl
theorem ml_RX8_206 : (.methodLink RX8 206 yX0_shareOf : Cond) ∈ UW := uw 590 (by decide +kernel) rfl
theorem im_yX0_shareOf : (.instanceMethod yX0_shareOf : Cond) ∈ UW := uw 591 (by decide +kernel) rfl
theorem se_yX0_shareOf : (.selects RX0 yX0_shareOf yX0_shareOf : Cond) ∈ UW := uw 592 (by decide +kernel) rfl
theorem co_yX0_shareOf : (.code yX0_shareOf cX0_shareOf 9 (Option.some Jvm.ClassFile.FieldType.int) : Cond) ∈ UW := uw 593 (by decide +kernel) rfl
theorem ml_RL_129 : (.methodLink RL 129 yX8_sure : Cond) ∈ UW := uw 594 (by decide +kernel) rfl
theorem im_yX8_sure : (.instanceMethod yX8_sure : Cond) ∈ UW := uw 595 (by decide +kernel) rfl
theorem se_yX8_sure : (.selects RX8 yX8_sure yX8_sure : Cond) ∈ UW := uw 596 (by decide +kernel) rfl
theorem co_yX8_sure : (.code yX8_sure cX8_sure 3 (Option.some Jvm.ClassFile.FieldType.int) : Cond) ∈ UW := uw 597 (by decide +kernel) rfl
theorem ml_RX8_210 : (.methodLink RX8 210 yX1_surenessOf : Cond) ∈ UW := uw 598 (by decide +kernel) rfl
theorem im_yX1_surenessOf : (.instanceMethod yX1_surenessOf : Cond) ∈ UW := uw 599 (by decide +kernel) rfl
theorem se_yX1_surenessOf : (.selects RX1 yX1_surenessOf yX1_surenessOf : Cond) ∈ UW := uw 600 (by decide +kernel) rfl
theorem co_yX1_surenessOf : (.code yX1_surenessOf cX1_surenessOf 11 (Option.some Jvm.ClassFile.FieldType.int) : Cond) ∈ UW := uw 601 (by decide +kernel) rfl
theorem ml_RX1_25 : (.methodLink RX1 25 yX1_weigh : Cond) ∈ UW := uw 602 (by decide +kernel) rfl
theorem im_yX1_weigh : (.instanceMethod yX1_weigh : Cond) ∈ UW := uw 604 (by decide +kernel) rfl
theorem co_yX1_weigh : (.code yX1_weigh cX1_weigh 6 (Option.none : Option Jvm.ClassFile.FieldType) : Cond) ∈ UW := uw 605 (by decide +kernel) rfl
theorem ml_RX1_29 : (.methodLink RX1 29 yX1_tallyOf : Cond) ∈ UW := uw 606 (by decide +kernel) rfl
theorem im_yX1_tallyOf : (.instanceMethod yX1_tallyOf : Cond) ∈ UW := uw 608 (by decide +kernel) rfl
theorem co_yX1_tallyOf : (.code yX1_tallyOf cX1_tallyOf 2 (Option.some (Jvm.ClassFile.FieldType.object "MownWords$Tally")) : Cond) ∈ UW := uw 609 (by decide +kernel) rfl
theorem ml_RX1_39 : (.methodLink RX1 39 yX1_newClosestKeys : Cond) ∈ UW := uw 610 (by decide +kernel) rfl
theorem sm_yX1_newClosestKeys : (.static yX1_newClosestKeys : Cond) ∈ UW := uw 611 (by decide +kernel) rfl
theorem co_yX1_newClosestKeys : (.code yX1_newClosestKeys cX1_newClosestKeys 2 (Option.some (Jvm.ClassFile.FieldType.array Jvm.ClassFile.FieldType.int)) : Cond) ∈ UW := uw 612 (by decide +kernel) rfl
theorem ck_RX1_49 : (.constant RX1 49 (32768) : Cond) ∈ UW := uw 613 (by decide +kernel) rfl
theorem ml_RX1_50 : (.methodLink RX1 50 yJ7_fill_53178 : Cond) ∈ UW := uw 614 (by decide +kernel) rfl
theorem ml_RX1_56 : (.methodLink RX1 56 yX1_passOver : Cond) ∈ UW := uw 616 (by decide +kernel) rfl
theorem sm_yX1_passOver : (.static yX1_passOver : Cond) ∈ UW := uw 617 (by decide +kernel) rfl
theorem co_yX1_passOver : (.code yX1_passOver cX1_passOver 5 (Option.none : Option Jvm.ClassFile.FieldType) : Cond) ∈ UW := uw 618 (by decide +kernel) rfl
theorem ml_RX1_59 : (.methodLink RX1 59 Lib.Math.min.name : Cond) ∈ UW := uw 619 (by decide +kernel) rfl
theorem it_RX5 : (.instantiable RX5 1 : Cond) ∈ UW := uw 620 (by decide +kernel) rfl
theorem ml_RX1_46 : (.methodLink RX1 46 yX5_init : Cond) ∈ UW := uw 621 (by decide +kernel) rfl
theorem im_yX5_init : (.instanceMethod yX5_init : Cond) ∈ UW := uw 622 (by decide +kernel) rfl
theorem co_yX5_init : (.code yX5_init cX5_init 6 (Option.none : Option Jvm.ClassFile.FieldType) : Cond) ∈ UW := uw 623 (by decide +kernel) rfl
theorem ml_RX5_3 : (.methodLink RX5 3 objectInit : Cond) ∈ UW := uw 624 (by decide +kernel) rfl
theorem ml_RX5_15 : (.methodLink RX5 15 yJ6_bitCount_0f7a4 : Cond) ∈ UW := uw 625 (by decide +kernel) rfl
theorem fl_RX5_11 : (.fieldLink RX5 11 "MownWords$Tally" "ways" "[I" : Cond) ∈ UW := uw 626 (by decide +kernel) rfl
theorem ml_RX1_33 : (.methodLink RX1 33 yX5_oddsToRead : Cond) ∈ UW := uw 630 (by decide +kernel) rfl
theorem im_yX5_oddsToRead : (.instanceMethod yX5_oddsToRead : Cond) ∈ UW := uw 631 (by decide +kernel) rfl
theorem se_yX5_oddsToRead : (.selects RX5 yX5_oddsToRead yX5_oddsToRead : Cond) ∈ UW := uw 632 (by decide +kernel) rfl
theorem co_yX5_oddsToRead : (.code yX5_oddsToRead cX5_oddsToRead 8 (Option.some Jvm.ClassFile.FieldType.long) : Cond) ∈ UW := uw 633 (by decide +kernel) rfl
theorem cn_RX1_37 : (.constantLong RX1 37 (1000) : Cond) ∈ UW := uw 634 (by decide +kernel) rfl
theorem ml_RL_133 : (.methodLink RL 133 yX8_taken : Cond) ∈ UW := uw 635 (by decide +kernel) rfl
theorem im_yX8_taken : (.instanceMethod yX8_taken : Cond) ∈ UW := uw 636 (by decide +kernel) rfl
theorem se_yX8_taken : (.selects RX8 yX8_taken yX8_taken : Cond) ∈ UW := uw 637 (by decide +kernel) rfl
theorem co_yX8_taken : (.code yX8_taken cX8_taken 3 (Option.some Jvm.ClassFile.FieldType.int) : Cond) ∈ UW := uw 638 (by decide +kernel) rfl
theorem ml_RX8_214 : (.methodLink RX8 214 yX1_mistakeFor : Cond) ∈ UW := uw 639 (by decide +kernel) rfl
theorem im_yX1_mistakeFor : (.instanceMethod yX1_mistakeFor : Cond) ∈ UW := uw 640 (by decide +kernel) rfl
theorem se_yX1_mistakeFor : (.selects RX1 yX1_mistakeFor yX1_mistakeFor : Cond) ∈ UW := uw 641 (by decide +kernel) rfl
theorem co_yX1_mistakeFor : (.code yX1_mistakeFor cX1_mistakeFor 11 (Option.some Jvm.ClassFile.FieldType.int) : Cond) ∈ UW := uw 642 (by decide +kernel) rfl
theorem ml_RL_137 : (.methodLink RL 137 yX8_fades : Cond) ∈ UW := uw 643 (by decide +kernel) rfl
theorem im_yX8_fades : (.instanceMethod yX8_fades : Cond) ∈ UW := uw 644 (by decide +kernel) rfl
theorem se_yX8_fades : (.selects RX8 yX8_fades yX8_fades : Cond) ∈ UW := uw 645 (by decide +kernel) rfl
theorem co_yX8_fades : (.code yX8_fades cX8_fades 5 (Option.some Jvm.ClassFile.FieldType.int) : Cond) ∈ UW := uw 646 (by decide +kernel) rfl
theorem ml_RL_141 : (.methodLink RL 141 yX8_brief : Cond) ∈ UW := uw 647 (by decide +kernel) rfl
theorem im_yX8_brief : (.instanceMethod yX8_brief : Cond) ∈ UW := uw 648 (by decide +kernel) rfl
theorem se_yX8_brief : (.selects RX8 yX8_brief yX8_brief : Cond) ∈ UW := uw 649 (by decide +kernel) rfl
theorem co_yX8_brief : (.code yX8_brief cX8_brief 6 (Option.some Jvm.ClassFile.FieldType.int) : Cond) ∈ UW := uw 650 (by decide +kernel) rfl
theorem ml_RX8_222 : (.methodLink RX8 222 yX0_isOwnForm : Cond) ∈ UW := uw 651 (by decide +kernel) rfl
theorem im_yX0_isOwnForm : (.instanceMethod yX0_isOwnForm : Cond) ∈ UW := uw 652 (by decide +kernel) rfl
theorem se_yX0_isOwnForm : (.selects RX0 yX0_isOwnForm yX0_isOwnForm : Cond) ∈ UW := uw 653 (by decide +kernel) rfl
theorem co_yX0_isOwnForm : (.code yX0_isOwnForm cX0_isOwnForm 4 (Option.some Jvm.ClassFile.FieldType.boolean) : Cond) ∈ UW := uw 654 (by decide +kernel) rfl
theorem ml_RX0_127 : (.methodLink RX0 127 yX7_isLike : Cond) ∈ UW := uw 655 (by decide +kernel) rfl
theorem im_yX7_isLike : (.instanceMethod yX7_isLike : Cond) ∈ UW := uw 656 (by decide +kernel) rfl
theorem se_yX7_isLike : (.selects RX7 yX7_isLike yX7_isLike : Cond) ∈ UW := uw 657 (by decide +kernel) rfl
theorem co_yX7_isLike : (.code yX7_isLike cX7_isLike 3 (Option.some Jvm.ClassFile.FieldType.boolean) : Cond) ∈ UW := uw 658 (by decide +kernel) rfl
theorem ml_RX0_131 : (.methodLink RX0 131 yX7_hasFormIn : Cond) ∈ UW := uw 659 (by decide +kernel) rfl
theorem im_yX7_hasFormIn : (.instanceMethod yX7_hasFormIn : Cond) ∈ UW := uw 660 (by decide +kernel) rfl
theorem se_yX7_hasFormIn : (.selects RX7 yX7_hasFormIn yX7_hasFormIn : Cond) ∈ UW := uw 661 (by decide +kernel) rfl
theorem co_yX7_hasFormIn : (.code yX7_hasFormIn cX7_hasFormIn 5 (Option.some Jvm.ClassFile.FieldType.boolean) : Cond) ∈ UW := uw 662 (by decide +kernel) rfl
theorem ml_RX7_28 : (.methodLink RX7 28 yX7_placeBehind : Cond) ∈ UW := uw 663 (by decide +kernel) rfl
theorem im_yX7_placeBehind : (.instanceMethod yX7_placeBehind : Cond) ∈ UW := uw 665 (by decide +kernel) rfl
theorem co_yX7_placeBehind : (.code yX7_placeBehind cX7_placeBehind 4 (Option.some Jvm.ClassFile.FieldType.int) : Cond) ∈ UW := uw 666 (by decide +kernel) rfl
theorem ml_RL_145 : (.methodLink RL 145 yX8_image : Cond) ∈ UW := uw 667 (by decide +kernel) rfl
theorem im_yX8_image : (.instanceMethod yX8_image : Cond) ∈ UW := uw 668 (by decide +kernel) rfl
theorem se_yX8_image : (.selects RX8 yX8_image yX8_image : Cond) ∈ UW := uw 669 (by decide +kernel) rfl
theorem co_yX8_image : (.code yX8_image cX8_image 1 (Option.some Jvm.ClassFile.FieldType.int) : Cond) ∈ UW := uw 670 (by decide +kernel) rfl
theorem ml_RX8_225 : (.methodLink RX8 225 yX0_copyFrom : Cond) ∈ UW := uw 671 (by decide +kernel) rfl
theorem im_yX0_copyFrom : (.instanceMethod yX0_copyFrom : Cond) ∈ UW := uw 672 (by decide +kernel) rfl
theorem se_yX0_copyFrom : (.selects RX0 yX0_copyFrom yX0_copyFrom : Cond) ∈ UW := uw 673 (by decide +kernel) rfl
theorem co_yX0_copyFrom : (.code yX0_copyFrom cX0_copyFrom 3 (Option.none : Option Jvm.ClassFile.FieldType) : Cond) ∈ UW := uw 674 (by decide +kernel) rfl
theorem ml_RX0_51 : (.methodLink RX0 51 yX4_copyFrom : Cond) ∈ UW := uw 675 (by decide +kernel) rfl
theorem im_yX4_copyFrom : (.instanceMethod yX4_copyFrom : Cond) ∈ UW := uw 676 (by decide +kernel) rfl
theorem se_yX4_copyFrom : (.selects RX4 yX4_copyFrom yX4_copyFrom : Cond) ∈ UW := uw 677 (by decide +kernel) rfl
theorem co_yX4_copyFrom : (.code yX4_copyFrom cX4_copyFrom 2 (Option.none : Option Jvm.ClassFile.FieldType) : Cond) ∈ UW := uw 678 (by decide +kernel) rfl
theorem ml_RX4_25 : (.methodLink RX4 25 arraycopyName : Cond) ∈ UW := uw 679 (by decide +kernel) rfl
theorem ml_RL_149 : (.methodLink RL 149 yX8_restore : Cond) ∈ UW := uw 680 (by decide +kernel) rfl
theorem im_yX8_restore : (.instanceMethod yX8_restore : Cond) ∈ UW := uw 681 (by decide +kernel) rfl
theorem se_yX8_restore : (.selects RX8 yX8_restore yX8_restore : Cond) ∈ UW := uw 682 (by decide +kernel) rfl
theorem co_yX8_restore : (.code yX8_restore cX8_restore 1 (Option.some Jvm.ClassFile.FieldType.int) : Cond) ∈ UW := uw 683 (by decide +kernel) rfl
theorem ml_RL_153 : (.methodLink RL 153 yX8_sow : Cond) ∈ UW := uw 684 (by decide +kernel) rfl
theorem im_yX8_sow : (.instanceMethod yX8_sow : Cond) ∈ UW := uw 685 (by decide +kernel) rfl
theorem se_yX8_sow : (.selects RX8 yX8_sow yX8_sow : Cond) ∈ UW := uw 686 (by decide +kernel) rfl
theorem co_yX8_sow : (.code yX8_sow cX8_sow 7 (Option.some Jvm.ClassFile.FieldType.int) : Cond) ∈ UW := uw 687 (by decide +kernel) rfl
theorem ml_RX8_228 : (.methodLink RX8 228 yX8_isSheet : Cond) ∈ UW := uw 688 (by decide +kernel) rfl
theorem sm_yX8_isSheet : (.static yX8_isSheet : Cond) ∈ UW := uw 689 (by decide +kernel) rfl
theorem co_yX8_isSheet : (.code yX8_isSheet cX8_isSheet 2 (Option.some Jvm.ClassFile.FieldType.boolean) : Cond) ∈ UW := uw 690 (by decide +kernel) rfl
theorem ml_RX8_231 : (.methodLink RX8 231 yX3_refusal : Cond) ∈ UW := uw 691 (by decide +kernel) rfl
theorem im_yX3_refusal : (.instanceMethod yX3_refusal : Cond) ∈ UW := uw 692 (by decide +kernel) rfl
theorem se_yX3_refusal : (.selects RX3 yX3_refusal yX3_refusal : Cond) ∈ UW := uw 693 (by decide +kernel) rfl
theorem co_yX3_refusal : (.code yX3_refusal cX3_refusal 4 (Option.some Jvm.ClassFile.FieldType.int) : Cond) ∈ UW := uw 694 (by decide +kernel) rfl
theorem ml_RX8_234 : (.methodLink RX8 234 yX3_holdsGrass : Cond) ∈ UW := uw 695 (by decide +kernel) rfl
theorem im_yX3_holdsGrass : (.instanceMethod yX3_holdsGrass : Cond) ∈ UW := uw 696 (by decide +kernel) rfl
theorem se_yX3_holdsGrass : (.selects RX3 yX3_holdsGrass yX3_holdsGrass : Cond) ∈ UW := uw 697 (by decide +kernel) rfl
theorem co_yX3_holdsGrass : (.code yX3_holdsGrass cX3_holdsGrass 3 (Option.some Jvm.ClassFile.FieldType.boolean) : Cond) ∈ UW := uw 698 (by decide +kernel) rfl
theorem ml_RX8_240 : (.methodLink RX8 240 yX4_sowFrom : Cond) ∈ UW := uw 699 (by decide +kernel) rfl
theorem im_yX4_sowFrom : (.instanceMethod yX4_sowFrom : Cond) ∈ UW := uw 700 (by decide +kernel) rfl
theorem se_yX4_sowFrom : (.selects RX4 yX4_sowFrom yX4_sowFrom : Cond) ∈ UW := uw 701 (by decide +kernel) rfl
theorem co_yX4_sowFrom : (.code yX4_sowFrom cX4_sowFrom 3 (Option.some Jvm.ClassFile.FieldType.int) : Cond) ∈ UW := uw 702 (by decide +kernel) rfl
theorem ml_RX4_45 : (.methodLink RX4 45 yX4_grassOf : Cond) ∈ UW := uw 703 (by decide +kernel) rfl
theorem ml_RL_158 : (.methodLink RL 158 yX8_sheet : Cond) ∈ UW := uw 704 (by decide +kernel) rfl
theorem im_yX8_sheet : (.instanceMethod yX8_sheet : Cond) ∈ UW := uw 705 (by decide +kernel) rfl
theorem se_yX8_sheet : (.selects RX8 yX8_sheet yX8_sheet : Cond) ∈ UW := uw 706 (by decide +kernel) rfl
theorem co_yX8_sheet : (.code yX8_sheet cX8_sheet 4 (Option.some Jvm.ClassFile.FieldType.int) : Cond) ∈ UW := uw 707 (by decide +kernel) rfl
theorem ml_RX8_244 : (.methodLink RX8 244 yX3_begin : Cond) ∈ UW := uw 708 (by decide +kernel) rfl
theorem im_yX3_begin : (.instanceMethod yX3_begin : Cond) ∈ UW := uw 709 (by decide +kernel) rfl
theorem se_yX3_begin : (.selects RX3 yX3_begin yX3_begin : Cond) ∈ UW := uw 710 (by decide +kernel) rfl
theorem co_yX3_begin : (.code yX3_begin cX3_begin 3 (Option.none : Option Jvm.ClassFile.FieldType) : Cond) ∈ UW := uw 711 (by decide +kernel) rfl
theorem ml_RX3_22 : (.methodLink RX3 22 yJ7_fill_53178 : Cond) ∈ UW := uw 712 (by decide +kernel) rfl
theorem ml_RL_162 : (.methodLink RL 162 yX8_drop : Cond) ∈ UW := uw 713 (by decide +kernel) rfl
theorem im_yX8_drop : (.instanceMethod yX8_drop : Cond) ∈ UW := uw 714 (by decide +kernel) rfl
theorem se_yX8_drop : (.selects RX8 yX8_drop yX8_drop : Cond) ∈ UW := uw 715 (by decide +kernel) rfl
theorem co_yX8_drop : (.code yX8_drop cX8_drop 3 (Option.some Jvm.ClassFile.FieldType.int) : Cond) ∈ UW := uw 716 (by decide +kernel) rfl
theorem ml_RL_166 : (.methodLink RL 166 yX8_item : Cond) ∈ UW := uw 717 (by decide +kernel) rfl
theorem im_yX8_item : (.instanceMethod yX8_item : Cond) ∈ UW := uw 718 (by decide +kernel) rfl
theorem se_yX8_item : (.selects RX8 yX8_item yX8_item : Cond) ∈ UW := uw 719 (by decide +kernel) rfl
theorem co_yX8_item : (.code yX8_item cX8_item 6 (Option.some Jvm.ClassFile.FieldType.int) : Cond) ∈ UW := uw 720 (by decide +kernel) rfl
theorem ml_RX8_252 : (.methodLink RX8 252 yX3_put : Cond) ∈ UW := uw 721 (by decide +kernel) rfl
theorem im_yX3_put : (.instanceMethod yX3_put : Cond) ∈ UW := uw 722 (by decide +kernel) rfl
theorem se_yX3_put : (.selects RX3 yX3_put yX3_put : Cond) ∈ UW := uw 723 (by decide +kernel) rfl
theorem co_yX3_put : (.code yX3_put cX3_put 3 (Option.none : Option Jvm.ClassFile.FieldType) : Cond) ∈ UW := uw 724 (by decide +kernel) rfl
theorem ml_RL_170 : (.methodLink RL 170 yX8_film : Cond) ∈ UW := uw 725 (by decide +kernel) rfl
theorem im_yX8_film : (.instanceMethod yX8_film : Cond) ∈ UW := uw 726 (by decide +kernel) rfl
theorem se_yX8_film : (.selects RX8 yX8_film yX8_film : Cond) ∈ UW := uw 727 (by decide +kernel) rfl
theorem co_yX8_film : (.code yX8_film cX8_film 6 (Option.some Jvm.ClassFile.FieldType.int) : Cond) ∈ UW := uw 728 (by decide +kernel) rfl
theorem cl_RL_10 : (.classLink RL 10 "MownWordsModel" : Cond) ∈ UW := uw 729 (by decide +kernel) rfl
theorem it_RX9 : (.instantiable RX9 27 : Cond) ∈ UW := uw 730 (by decide +kernel) rfl
theorem ml_RL_12 : (.methodLink RL 12 yX9_init : Cond) ∈ UW := uw 731 (by decide +kernel) rfl
theorem im_yX9_init : (.instanceMethod yX9_init : Cond) ∈ UW := uw 732 (by decide +kernel) rfl
theorem co_yX9_init : (.code yX9_init cX9_init 2 (Option.none : Option Jvm.ClassFile.FieldType) : Cond) ∈ UW := uw 733 (by decide +kernel) rfl
theorem ml_RX9_1 : (.methodLink RX9 1 objectInit : Cond) ∈ UW := uw 734 (by decide +kernel) rfl
theorem fl_RX9_7 : (.fieldLink RX9 7 "MownWordsModel" "forms" "[I" : Cond) ∈ UW := uw 735 (by decide +kernel) rfl
theorem fl_RX9_13 : (.fieldLink RX9 13 "MownWordsModel" "owners" "[I" : Cond) ∈ UW := uw 736 (by decide +kernel) rfl
theorem fl_RX9_16 : (.fieldLink RX9 16 "MownWordsModel" "grass" "[I" : Cond) ∈ UW := uw 737 (by decide +kernel) rfl
theorem fl_RX9_19 : (.fieldLink RX9 19 "MownWordsModel" "hays" "[I" : Cond) ∈ UW := uw 738 (by decide +kernel) rfl
theorem fl_RX9_22 : (.fieldLink RX9 22 "MownWordsModel" "sets" "[I" : Cond) ∈ UW := uw 739 (by decide +kernel) rfl
theorem fl_RX9_25 : (.fieldLink RX9 25 "MownWordsModel" "feuds" "[I" : Cond) ∈ UW := uw 740 (by decide +kernel) rfl
theorem fl_RX9_28 : (.fieldLink RX9 28 "MownWordsModel" "words" "[I" : Cond) ∈ UW := uw 741 (by decide +kernel) rfl
theorem fl_RX9_71 : (.fieldLink RX9 71 "MownWordsModel" "strips" "I" : Cond) ∈ UW := uw 742 (by decide +kernel) rfl
theorem fl_RX9_83 : (.fieldLink RX9 83 "MownWordsModel" "many" "I" : Cond) ∈ UW := uw 743 (by decide +kernel) rfl
theorem fl_RX9_31 : (.fieldLink RX9 31 "MownWordsModel" "tape" "[I" : Cond) ∈ UW := uw 744 (by decide +kernel) rfl
theorem fl_RX9_141 : (.fieldLink RX9 141 "MownWordsModel" "taped" "I" : Cond) ∈ UW := uw 745 (by decide +kernel) rfl
theorem fl_RX9_144 : (.fieldLink RX9 144 "MownWordsModel" "place" "I" : Cond) ∈ UW := uw 746 (by decide +kernel) rfl
theorem fl_RX9_155 : (.fieldLink RX9 155 "MownWordsModel" "reads" "I" : Cond) ∈ UW := uw 747 (by decide +kernel) rfl
theorem fl_RX9_34 : (.fieldLink RX9 34 "MownWordsModel" "read" "[I" : Cond) ∈ UW := uw 748 (by decide +kernel) rfl
theorem fl_RX9_37 : (.fieldLink RX9 37 "MownWordsModel" "best" "[I" : Cond) ∈ UW := uw 749 (by decide +kernel) rfl
theorem fl_RX9_40 : (.fieldLink RX9 40 "MownWordsModel" "row" "[I" : Cond) ∈ UW := uw 750 (by decide +kernel) rfl
theorem fl_RX9_200 : (.fieldLink RX9 200 "MownWordsModel" "rowSize" "I" : Cond) ∈ UW := uw 751 (by decide +kernel) rfl
theorem fl_RX9_43 : (.fieldLink RX9 43 "MownWordsModel" "lies" "[I" : Cond) ∈ UW := uw 752 (by decide +kernel) rfl
theorem fl_RX9_46 : (.fieldLink RX9 46 "MownWordsModel" "worths" "[I" : Cond) ∈ UW := uw 753 (by decide +kernel) rfl
theorem fl_RX9_49 : (.fieldLink RX9 49 "MownWordsModel" "odds" "[J" : Cond) ∈ UW := uw 754 (by decide +kernel) rfl
theorem fl_RX9_53 : (.fieldLink RX9 53 "MownWordsModel" "had" "[I" : Cond) ∈ UW := uw 755 (by decide +kernel) rfl
theorem fl_RX9_235 : (.fieldLink RX9 235 "MownWordsModel" "isKept" "Z" : Cond) ∈ UW := uw 756 (by decide +kernel) rfl
theorem fl_RX9_56 : (.fieldLink RX9 56 "MownWordsModel" "kept" "[I" : Cond) ∈ UW := uw 757 (by decide +kernel) rfl
theorem fl_RX9_59 : (.fieldLink RX9 59 "MownWordsModel" "keptMany" "[I" : Cond) ∈ UW := uw 758 (by decide +kernel) rfl
theorem fl_RX9_62 : (.fieldLink RX9 62 "MownWordsModel" "lanes" "[I" : Cond) ∈ UW := uw 759 (by decide +kernel) rfl
theorem fl_RX9_65 : (.fieldLink RX9 65 "MownWordsModel" "rowSizes" "[I" : Cond) ∈ UW := uw 760 (by decide +kernel) rfl
theorem fl_RX9_68 : (.fieldLink RX9 68 "MownWordsModel" "items" "[I" : Cond) ∈ UW := uw 761 (by decide +kernel) rfl
theorem ml_RL_17 : (.methodLink RL 17 yX9_strip : Cond) ∈ UW := uw 817 (by decide +kernel) rfl
theorem im_yX9_strip : (.instanceMethod yX9_strip : Cond) ∈ UW := uw 818 (by decide +kernel) rfl
theorem se_yX9_strip : (.selects RX9 yX9_strip yX9_strip : Cond) ∈ UW := uw 819 (by decide +kernel) rfl
theorem co_yX9_strip : (.code yX9_strip cX9_strip 2 (Option.some Jvm.ClassFile.FieldType.int) : Cond) ∈ UW := uw 820 (by decide +kernel) rfl
theorem cn_RX9_86 : (.constantLong RX9 86 (5) : Cond) ∈ UW := uw 821 (by decide +kernel) rfl
theorem ml_RX9_75 : (.methodLink RX9 75 yX9_in : Cond) ∈ UW := uw 822 (by decide +kernel) rfl
theorem sm_yX9_in : (.static yX9_in : Cond) ∈ UW := uw 823 (by decide +kernel) rfl
theorem co_yX9_in : (.code yX9_in cX9_in 6 (Option.some Jvm.ClassFile.FieldType.boolean) : Cond) ∈ UW := uw 824 (by decide +kernel) rfl
theorem ml_RX9_88 : (.methodLink RX9 88 yX9_addStrip : Cond) ∈ UW := uw 825 (by decide +kernel) rfl
theorem im_yX9_addStrip : (.instanceMethod yX9_addStrip : Cond) ∈ UW := uw 827 (by decide +kernel) rfl
theorem co_yX9_addStrip : (.code yX9_addStrip cX9_addStrip 3 (Option.none : Option Jvm.ClassFile.FieldType) : Cond) ∈ UW := uw 828 (by decide +kernel) rfl
theorem ml_RL_22 : (.methodLink RL 22 yX9_set : Cond) ∈ UW := uw 829 (by decide +kernel) rfl
theorem im_yX9_set : (.instanceMethod yX9_set : Cond) ∈ UW := uw 830 (by decide +kernel) rfl
theorem se_yX9_set : (.selects RX9 yX9_set yX9_set : Cond) ∈ UW := uw 831 (by decide +kernel) rfl
theorem co_yX9_set : (.code yX9_set cX9_set 5 (Option.some Jvm.ClassFile.FieldType.int) : Cond) ∈ UW := uw 832 (by decide +kernel) rfl
theorem cn_RX9_92 : (.constantLong RX9 92 (3) : Cond) ∈ UW := uw 833 (by decide +kernel) rfl
theorem ml_RL_26 : (.methodLink RL 26 yX9_grass : Cond) ∈ UW := uw 834 (by decide +kernel) rfl
theorem im_yX9_grass : (.instanceMethod yX9_grass : Cond) ∈ UW := uw 835 (by decide +kernel) rfl
theorem se_yX9_grass : (.selects RX9 yX9_grass yX9_grass : Cond) ∈ UW := uw 836 (by decide +kernel) rfl
theorem co_yX9_grass : (.code yX9_grass cX9_grass 3 (Option.some Jvm.ClassFile.FieldType.int) : Cond) ∈ UW := uw 837 (by decide +kernel) rfl
theorem ml_RX9_94 : (.methodLink RX9 94 yX9_isStrip : Cond) ∈ UW := uw 838 (by decide +kernel) rfl
theorem im_yX9_isStrip : (.instanceMethod yX9_isStrip : Cond) ∈ UW := uw 840 (by decide +kernel) rfl
theorem co_yX9_isStrip : (.code yX9_isStrip cX9_isStrip 2 (Option.some Jvm.ClassFile.FieldType.boolean) : Cond) ∈ UW := uw 841 (by decide +kernel) rfl
theorem ml_RX9_98 : (.methodLink RX9 98 yX9_isCell : Cond) ∈ UW := uw 842 (by decide +kernel) rfl
theorem sm_yX9_isCell : (.static yX9_isCell : Cond) ∈ UW := uw 843 (by decide +kernel) rfl
theorem co_yX9_isCell : (.code yX9_isCell cX9_isCell 1 (Option.some Jvm.ClassFile.FieldType.boolean) : Cond) ∈ UW := uw 844 (by decide +kernel) rfl
theorem cn_RX9_79 : (.constantLong RX9 79 (14) : Cond) ∈ UW := uw 845 (by decide +kernel) rfl
theorem ml_RL_30 : (.methodLink RL 30 yX9_letter : Cond) ∈ UW := uw 846 (by decide +kernel) rfl
theorem im_yX9_letter : (.instanceMethod yX9_letter : Cond) ∈ UW := uw 847 (by decide +kernel) rfl
theorem se_yX9_letter : (.selects RX9 yX9_letter yX9_letter : Cond) ∈ UW := uw 848 (by decide +kernel) rfl
theorem co_yX9_letter : (.code yX9_letter cX9_letter 2 (Option.some Jvm.ClassFile.FieldType.int) : Cond) ∈ UW := uw 849 (by decide +kernel) rfl
theorem ml_RX9_101 : (.methodLink RX9 101 yX9_isLetter : Cond) ∈ UW := uw 850 (by decide +kernel) rfl
theorem sm_yX9_isLetter : (.static yX9_isLetter : Cond) ∈ UW := uw 851 (by decide +kernel) rfl
theorem co_yX9_isLetter : (.code yX9_isLetter cX9_isLetter 1 (Option.some Jvm.ClassFile.FieldType.boolean) : Cond) ∈ UW := uw 852 (by decide +kernel) rfl
theorem cn_RX9_81 : (.constantLong RX9 81 (25) : Cond) ∈ UW := uw 853 (by decide +kernel) rfl
theorem ml_RL_34 : (.methodLink RL 34 yX9_seen : Cond) ∈ UW := uw 854 (by decide +kernel) rfl
theorem im_yX9_seen : (.instanceMethod yX9_seen : Cond) ∈ UW := uw 855 (by decide +kernel) rfl
theorem se_yX9_seen : (.selects RX9 yX9_seen yX9_seen : Cond) ∈ UW := uw 856 (by decide +kernel) rfl
theorem co_yX9_seen : (.code yX9_seen cX9_seen 2 (Option.some Jvm.ClassFile.FieldType.int) : Cond) ∈ UW := uw 857 (by decide +kernel) rfl
theorem ml_RX9_104 : (.methodLink RX9 104 yX9_seenOf : Cond) ∈ UW := uw 858 (by decide +kernel) rfl
theorem im_yX9_seenOf : (.instanceMethod yX9_seenOf : Cond) ∈ UW := uw 860 (by decide +kernel) rfl
theorem co_yX9_seenOf : (.code yX9_seenOf cX9_seenOf 4 (Option.some Jvm.ClassFile.FieldType.int) : Cond) ∈ UW := uw 861 (by decide +kernel) rfl
theorem ml_RL_38 : (.methodLink RL 38 yX9_reads : Cond) ∈ UW := uw 862 (by decide +kernel) rfl
theorem im_yX9_reads : (.instanceMethod yX9_reads : Cond) ∈ UW := uw 863 (by decide +kernel) rfl
theorem se_yX9_reads : (.selects RX9 yX9_reads yX9_reads : Cond) ∈ UW := uw 864 (by decide +kernel) rfl
theorem co_yX9_reads : (.code yX9_reads cX9_reads 2 (Option.some Jvm.ClassFile.FieldType.int) : Cond) ∈ UW := uw 865 (by decide +kernel) rfl
theorem ml_RX9_114 : (.methodLink RX9 114 yX9_readsAs : Cond) ∈ UW := uw 866 (by decide +kernel) rfl
theorem im_yX9_readsAs : (.instanceMethod yX9_readsAs : Cond) ∈ UW := uw 868 (by decide +kernel) rfl
theorem co_yX9_readsAs : (.code yX9_readsAs cX9_readsAs 3 (Option.some Jvm.ClassFile.FieldType.int) : Cond) ∈ UW := uw 869 (by decide +kernel) rfl
theorem ml_RX9_111 : (.methodLink RX9 111 yX9_nearestForm : Cond) ∈ UW := uw 870 (by decide +kernel) rfl
theorem im_yX9_nearestForm : (.instanceMethod yX9_nearestForm : Cond) ∈ UW := uw 872 (by decide +kernel) rfl
theorem co_yX9_nearestForm : (.code yX9_nearestForm cX9_nearestForm 4 (Option.some Jvm.ClassFile.FieldType.int) : Cond) ∈ UW := uw 873 (by decide +kernel) rfl
theorem ml_RX9_108 : (.methodLink RX9 108 yX9_ones : Cond) ∈ UW := uw 874 (by decide +kernel) rfl
theorem sm_yX9_ones : (.static yX9_ones : Cond) ∈ UW := uw 875 (by decide +kernel) rfl
theorem co_yX9_ones : (.code yX9_ones cX9_ones 3 (Option.some Jvm.ClassFile.FieldType.int) : Cond) ∈ UW := uw 876 (by decide +kernel) rfl
theorem ml_RL_42 : (.methodLink RL 42 yX9_off : Cond) ∈ UW := uw 877 (by decide +kernel) rfl
theorem im_yX9_off : (.instanceMethod yX9_off : Cond) ∈ UW := uw 878 (by decide +kernel) rfl
theorem se_yX9_off : (.selects RX9 yX9_off yX9_off : Cond) ∈ UW := uw 879 (by decide +kernel) rfl
theorem co_yX9_off : (.code yX9_off cX9_off 3 (Option.some Jvm.ClassFile.FieldType.int) : Cond) ∈ UW := uw 880 (by decide +kernel) rfl
theorem ml_RL_46 : (.methodLink RL 46 yX9_mow : Cond) ∈ UW := uw 881 (by decide +kernel) rfl
theorem im_yX9_mow : (.instanceMethod yX9_mow : Cond) ∈ UW := uw 882 (by decide +kernel) rfl
theorem se_yX9_mow : (.selects RX9 yX9_mow yX9_mow : Cond) ∈ UW := uw 883 (by decide +kernel) rfl
theorem co_yX9_mow : (.code yX9_mow cX9_mow 3 (Option.some Jvm.ClassFile.FieldType.int) : Cond) ∈ UW := uw 884 (by decide +kernel) rfl
theorem ml_RX9_121 : (.methodLink RX9 121 yX9_hasGrown : Cond) ∈ UW := uw 885 (by decide +kernel) rfl
theorem im_yX9_hasGrown : (.instanceMethod yX9_hasGrown : Cond) ∈ UW := uw 887 (by decide +kernel) rfl
theorem co_yX9_hasGrown : (.code yX9_hasGrown cX9_hasGrown 5 (Option.some Jvm.ClassFile.FieldType.boolean) : Cond) ∈ UW := uw 888 (by decide +kernel) rfl
theorem ml_RX9_117 : (.methodLink RX9 117 yX9_has : Cond) ∈ UW := uw 889 (by decide +kernel) rfl
theorem sm_yX9_has : (.static yX9_has : Cond) ∈ UW := uw 890 (by decide +kernel) rfl
theorem co_yX9_has : (.code yX9_has cX9_has 2 (Option.some Jvm.ClassFile.FieldType.boolean) : Cond) ∈ UW := uw 891 (by decide +kernel) rfl
theorem ml_RX9_124 : (.methodLink RX9 124 yX9_mowSet : Cond) ∈ UW := uw 892 (by decide +kernel) rfl
theorem im_yX9_mowSet : (.instanceMethod yX9_mowSet : Cond) ∈ UW := uw 894 (by decide +kernel) rfl
theorem co_yX9_mowSet : (.code yX9_mowSet cX9_mowSet 6 (Option.some Jvm.ClassFile.FieldType.int) : Cond) ∈ UW := uw 895 (by decide +kernel) rfl
theorem ml_RL_50 : (.methodLink RL 50 yX9_cut : Cond) ∈ UW := uw 896 (by decide +kernel) rfl
theorem im_yX9_cut : (.instanceMethod yX9_cut : Cond) ∈ UW := uw 897 (by decide +kernel) rfl
theorem se_yX9_cut : (.selects RX9 yX9_cut yX9_cut : Cond) ∈ UW := uw 898 (by decide +kernel) rfl
theorem co_yX9_cut : (.code yX9_cut cX9_cut 2 (Option.some Jvm.ClassFile.FieldType.int) : Cond) ∈ UW := uw 899 (by decide +kernel) rfl
theorem ml_RL_55 : (.methodLink RL 55 yX9_fault : Cond) ∈ UW := uw 900 (by decide +kernel) rfl
theorem im_yX9_fault : (.instanceMethod yX9_fault : Cond) ∈ UW := uw 901 (by decide +kernel) rfl
theorem se_yX9_fault : (.selects RX9 yX9_fault yX9_fault : Cond) ∈ UW := uw 902 (by decide +kernel) rfl
theorem co_yX9_fault : (.code yX9_fault cX9_fault 5 (Option.some Jvm.ClassFile.FieldType.int) : Cond) ∈ UW := uw 903 (by decide +kernel) rfl
theorem ml_RL_59 : (.methodLink RL 59 yX9_weeks : Cond) ∈ UW := uw 904 (by decide +kernel) rfl
theorem im_yX9_weeks : (.instanceMethod yX9_weeks : Cond) ∈ UW := uw 905 (by decide +kernel) rfl
theorem se_yX9_weeks : (.selects RX9 yX9_weeks yX9_weeks : Cond) ∈ UW := uw 906 (by decide +kernel) rfl
theorem co_yX9_weeks : (.code yX9_weeks cX9_weeks 4 (Option.some Jvm.ClassFile.FieldType.int) : Cond) ∈ UW := uw 907 (by decide +kernel) rfl
theorem cn_RX9_128 : (.constantLong RX9 128 (30) : Cond) ∈ UW := uw 908 (by decide +kernel) rfl
theorem ml_RX9_130 : (.methodLink RX9 130 yX9_goWeek : Cond) ∈ UW := uw 909 (by decide +kernel) rfl
theorem im_yX9_goWeek : (.instanceMethod yX9_goWeek : Cond) ∈ UW := uw 911 (by decide +kernel) rfl
theorem co_yX9_goWeek : (.code yX9_goWeek cX9_goWeek 3 (Option.none : Option Jvm.ClassFile.FieldType) : Cond) ∈ UW := uw 912 (by decide +kernel) rfl
theorem ml_RL_63 : (.methodLink RL 63 yX9_hay : Cond) ∈ UW := uw 913 (by decide +kernel) rfl
theorem im_yX9_hay : (.instanceMethod yX9_hay : Cond) ∈ UW := uw 914 (by decide +kernel) rfl
theorem se_yX9_hay : (.selects RX9 yX9_hay yX9_hay : Cond) ∈ UW := uw 915 (by decide +kernel) rfl
theorem co_yX9_hay : (.code yX9_hay cX9_hay 2 (Option.some Jvm.ClassFile.FieldType.int) : Cond) ∈ UW := uw 916 (by decide +kernel) rfl
theorem ml_RL_70 : (.methodLink RL 70 yX9_type : Cond) ∈ UW := uw 917 (by decide +kernel) rfl
theorem im_yX9_type : (.instanceMethod yX9_type : Cond) ∈ UW := uw 918 (by decide +kernel) rfl
theorem se_yX9_type : (.selects RX9 yX9_type yX9_type : Cond) ∈ UW := uw 919 (by decide +kernel) rfl
theorem co_yX9_type : (.code yX9_type cX9_type 5 (Option.some Jvm.ClassFile.FieldType.int) : Cond) ∈ UW := uw 920 (by decide +kernel) rfl
theorem cn_RX9_133 : (.constantLong RX9 133 (8) : Cond) ∈ UW := uw 921 (by decide +kernel) rfl
theorem cn_RX9_135 : (.constantLong RX9 135 (255) : Cond) ∈ UW := uw 922 (by decide +kernel) rfl
theorem cn_RX9_137 : (.constantLong RX9 137 (32) : Cond) ∈ UW := uw 923 (by decide +kernel) rfl
theorem cn_RX9_139 : (.constantLong RX9 139 (126) : Cond) ∈ UW := uw 924 (by decide +kernel) rfl
theorem ml_RL_75 : (.methodLink RL 75 yX9_strips : Cond) ∈ UW := uw 925 (by decide +kernel) rfl
theorem im_yX9_strips : (.instanceMethod yX9_strips : Cond) ∈ UW := uw 926 (by decide +kernel) rfl
theorem se_yX9_strips : (.selects RX9 yX9_strips yX9_strips : Cond) ∈ UW := uw 927 (by decide +kernel) rfl
theorem co_yX9_strips : (.code yX9_strips cX9_strips 3 (Option.some Jvm.ClassFile.FieldType.int) : Cond) ∈ UW := uw 928 (by decide +kernel) rfl
theorem ml_RX9_147 : (.methodLink RX9 147 yX9_nextByte : Cond) ∈ UW := uw 929 (by decide +kernel) rfl
theorem im_yX9_nextByte : (.instanceMethod yX9_nextByte : Cond) ∈ UW := uw 931 (by decide +kernel) rfl
theorem co_yX9_nextByte : (.code yX9_nextByte cX9_nextByte 1 (Option.some Jvm.ClassFile.FieldType.int) : Cond) ∈ UW := uw 932 (by decide +kernel) rfl
theorem cn_RX9_151 : (.constantLong RX9 151 (48) : Cond) ∈ UW := uw 933 (by decide +kernel) rfl
theorem cn_RX9_158 : (.constantLong RX9 158 (53) : Cond) ∈ UW := uw 934 (by decide +kernel) rfl
theorem ml_RL_79 : (.methodLink RL 79 yX9_words : Cond) ∈ UW := uw 935 (by decide +kernel) rfl
theorem im_yX9_words : (.instanceMethod yX9_words : Cond) ∈ UW := uw 936 (by decide +kernel) rfl
theorem se_yX9_words : (.selects RX9 yX9_words yX9_words : Cond) ∈ UW := uw 937 (by decide +kernel) rfl
theorem co_yX9_words : (.code yX9_words cX9_words 3 (Option.some Jvm.ClassFile.FieldType.int) : Cond) ∈ UW := uw 938 (by decide +kernel) rfl
theorem ml_RX9_170 : (.methodLink RX9 170 yX9_readWords : Cond) ∈ UW := uw 939 (by decide +kernel) rfl
theorem im_yX9_readWords : (.instanceMethod yX9_readWords : Cond) ∈ UW := uw 941 (by decide +kernel) rfl
theorem co_yX9_readWords : (.code yX9_readWords cX9_readWords 3 (Option.some Jvm.ClassFile.FieldType.boolean) : Cond) ∈ UW := uw 942 (by decide +kernel) rfl
theorem ml_RX9_167 : (.methodLink RX9 167 yX9_readWord : Cond) ∈ UW := uw 943 (by decide +kernel) rfl
theorem im_yX9_readWord : (.instanceMethod yX9_readWord : Cond) ∈ UW := uw 945 (by decide +kernel) rfl
theorem co_yX9_readWord : (.code yX9_readWord cX9_readWord 3 (Option.some Jvm.ClassFile.FieldType.boolean) : Cond) ∈ UW := uw 946 (by decide +kernel) rfl
theorem cn_RX9_160 : (.constantLong RX9 160 (97) : Cond) ∈ UW := uw 947 (by decide +kernel) rfl
theorem cn_RX9_162 : (.constantLong RX9 162 (122) : Cond) ∈ UW := uw 948 (by decide +kernel) rfl
theorem ml_RX9_164 : (.methodLink RX9 164 yX9_readNumber : Cond) ∈ UW := uw 949 (by decide +kernel) rfl
theorem im_yX9_readNumber : (.instanceMethod yX9_readNumber : Cond) ∈ UW := uw 951 (by decide +kernel) rfl
theorem co_yX9_readNumber : (.code yX9_readNumber cX9_readNumber 5 (Option.some Jvm.ClassFile.FieldType.int) : Cond) ∈ UW := uw 952 (by decide +kernel) rfl
theorem cn_RX9_153 : (.constantLong RX9 153 (57) : Cond) ∈ UW := uw 953 (by decide +kernel) rfl
theorem ml_RL_83 : (.methodLink RL 83 yX9_told : Cond) ∈ UW := uw 954 (by decide +kernel) rfl
theorem im_yX9_told : (.instanceMethod yX9_told : Cond) ∈ UW := uw 955 (by decide +kernel) rfl
theorem se_yX9_told : (.selects RX9 yX9_told yX9_told : Cond) ∈ UW := uw 956 (by decide +kernel) rfl
theorem co_yX9_told : (.code yX9_told cX9_told 4 (Option.some Jvm.ClassFile.FieldType.int) : Cond) ∈ UW := uw 957 (by decide +kernel) rfl
theorem ml_RX9_174 : (.methodLink RX9 174 yX9_isWord : Cond) ∈ UW := uw 958 (by decide +kernel) rfl
theorem im_yX9_isWord : (.instanceMethod yX9_isWord : Cond) ∈ UW := uw 960 (by decide +kernel) rfl
theorem co_yX9_isWord : (.code yX9_isWord cX9_isWord 2 (Option.some Jvm.ClassFile.FieldType.boolean) : Cond) ∈ UW := uw 961 (by decide +kernel) rfl
theorem ml_RL_87 : (.methodLink RL 87 yX9_pay : Cond) ∈ UW := uw 962 (by decide +kernel) rfl
theorem im_yX9_pay : (.instanceMethod yX9_pay : Cond) ∈ UW := uw 963 (by decide +kernel) rfl
theorem se_yX9_pay : (.selects RX9 yX9_pay yX9_pay : Cond) ∈ UW := uw 964 (by decide +kernel) rfl
theorem co_yX9_pay : (.code yX9_pay cX9_pay 4 (Option.some Jvm.ClassFile.FieldType.int) : Cond) ∈ UW := uw 965 (by decide +kernel) rfl
theorem cn_RX9_177 : (.constantLong RX9 177 (99) : Cond) ∈ UW := uw 966 (by decide +kernel) rfl
theorem ml_RL_92 : (.methodLink RL 92 yX9_feud : Cond) ∈ UW := uw 967 (by decide +kernel) rfl
theorem im_yX9_feud : (.instanceMethod yX9_feud : Cond) ∈ UW := uw 968 (by decide +kernel) rfl
theorem se_yX9_feud : (.selects RX9 yX9_feud yX9_feud : Cond) ∈ UW := uw 969 (by decide +kernel) rfl
theorem co_yX9_feud : (.code yX9_feud cX9_feud 5 (Option.some Jvm.ClassFile.FieldType.int) : Cond) ∈ UW := uw 970 (by decide +kernel) rfl
theorem ml_RL_96 : (.methodLink RL 96 yX9_count : Cond) ∈ UW := uw 971 (by decide +kernel) rfl
theorem im_yX9_count : (.instanceMethod yX9_count : Cond) ∈ UW := uw 972 (by decide +kernel) rfl
theorem se_yX9_count : (.selects RX9 yX9_count yX9_count : Cond) ∈ UW := uw 973 (by decide +kernel) rfl
theorem co_yX9_count : (.code yX9_count cX9_count 5 (Option.some Jvm.ClassFile.FieldType.int) : Cond) ∈ UW := uw 974 (by decide +kernel) rfl
theorem ml_RL_100 : (.methodLink RL 100 yX9_written : Cond) ∈ UW := uw 975 (by decide +kernel) rfl
theorem im_yX9_written : (.instanceMethod yX9_written : Cond) ∈ UW := uw 976 (by decide +kernel) rfl
theorem se_yX9_written : (.selects RX9 yX9_written yX9_written : Cond) ∈ UW := uw 977 (by decide +kernel) rfl
theorem co_yX9_written : (.code yX9_written cX9_written 3 (Option.some Jvm.ClassFile.FieldType.int) : Cond) ∈ UW := uw 978 (by decide +kernel) rfl
theorem ml_RX9_188 : (.methodLink RX9 188 yX9_isWritten : Cond) ∈ UW := uw 979 (by decide +kernel) rfl
theorem im_yX9_isWritten : (.instanceMethod yX9_isWritten : Cond) ∈ UW := uw 981 (by decide +kernel) rfl
theorem co_yX9_isWritten : (.code yX9_isWritten cX9_isWritten 5 (Option.some Jvm.ClassFile.FieldType.boolean) : Cond) ∈ UW := uw 982 (by decide +kernel) rfl
theorem ml_RX9_182 : (.methodLink RX9 182 yX9_hasRoom : Cond) ∈ UW := uw 983 (by decide +kernel) rfl
theorem im_yX9_hasRoom : (.instanceMethod yX9_hasRoom : Cond) ∈ UW := uw 985 (by decide +kernel) rfl
theorem co_yX9_hasRoom : (.code yX9_hasRoom cX9_hasRoom 3 (Option.some Jvm.ClassFile.FieldType.boolean) : Cond) ∈ UW := uw 986 (by decide +kernel) rfl
theorem ml_RX9_179 : (.methodLink RX9 179 yX9_sizeOf : Cond) ∈ UW := uw 987 (by decide +kernel) rfl
theorem im_yX9_sizeOf : (.instanceMethod yX9_sizeOf : Cond) ∈ UW := uw 989 (by decide +kernel) rfl
theorem co_yX9_sizeOf : (.code yX9_sizeOf cX9_sizeOf 2 (Option.some Jvm.ClassFile.FieldType.int) : Cond) ∈ UW := uw 990 (by decide +kernel) rfl
theorem ml_RX9_185 : (.methodLink RX9 185 yX9_letterOf : Cond) ∈ UW := uw 991 (by decide +kernel) rfl
theorem im_yX9_letterOf : (.instanceMethod yX9_letterOf : Cond) ∈ UW := uw 993 (by decide +kernel) rfl
theorem co_yX9_letterOf : (.code yX9_letterOf cX9_letterOf 3 (Option.some Jvm.ClassFile.FieldType.int) : Cond) ∈ UW := uw 994 (by decide +kernel) rfl
theorem ml_RL_112 : (.methodLink RL 112 yX9_may : Cond) ∈ UW := uw 995 (by decide +kernel) rfl
theorem im_yX9_may : (.instanceMethod yX9_may : Cond) ∈ UW := uw 996 (by decide +kernel) rfl
theorem se_yX9_may : (.selects RX9 yX9_may yX9_may : Cond) ∈ UW := uw 997 (by decide +kernel) rfl
theorem co_yX9_may : (.code yX9_may cX9_may 3 (Option.some Jvm.ClassFile.FieldType.int) : Cond) ∈ UW := uw 998 (by decide +kernel) rfl
theorem ml_RX9_191 : (.methodLink RX9 191 yX9_mayBe : Cond) ∈ UW := uw 999 (by decide +kernel) rfl
theorem im_yX9_mayBe : (.instanceMethod yX9_mayBe : Cond) ∈ UW := uw 1001 (by decide +kernel) rfl
theorem co_yX9_mayBe : (.code yX9_mayBe cX9_mayBe 8 (Option.some Jvm.ClassFile.FieldType.boolean) : Cond) ∈ UW := uw 1002 (by decide +kernel) rfl
theorem ml_RL_116 : (.methodLink RL 116 yX9_lost : Cond) ∈ UW := uw 1003 (by decide +kernel) rfl
theorem im_yX9_lost : (.instanceMethod yX9_lost : Cond) ∈ UW := uw 1004 (by decide +kernel) rfl
theorem se_yX9_lost : (.selects RX9 yX9_lost yX9_lost : Cond) ∈ UW := uw 1005 (by decide +kernel) rfl
theorem co_yX9_lost : (.code yX9_lost cX9_lost 3 (Option.some Jvm.ClassFile.FieldType.int) : Cond) ∈ UW := uw 1006 (by decide +kernel) rfl
theorem ml_RX9_197 : (.methodLink RX9 197 yX9_lostBy : Cond) ∈ UW := uw 1007 (by decide +kernel) rfl
theorem im_yX9_lostBy : (.instanceMethod yX9_lostBy : Cond) ∈ UW := uw 1009 (by decide +kernel) rfl
theorem co_yX9_lostBy : (.code yX9_lostBy cX9_lostBy 5 (Option.some Jvm.ClassFile.FieldType.int) : Cond) ∈ UW := uw 1010 (by decide +kernel) rfl
theorem ml_RX9_194 : (.methodLink RX9 194 yX9_lostOn : Cond) ∈ UW := uw 1011 (by decide +kernel) rfl
theorem im_yX9_lostOn : (.instanceMethod yX9_lostOn : Cond) ∈ UW := uw 1013 (by decide +kernel) rfl
theorem co_yX9_lostOn : (.code yX9_lostOn cX9_lostOn 6 (Option.some Jvm.ClassFile.FieldType.int) : Cond) ∈ UW := uw 1014 (by decide +kernel) rfl
theorem ml_RL_104 : (.methodLink RL 104 yX9_read : Cond) ∈ UW := uw 1015 (by decide +kernel) rfl
theorem im_yX9_read : (.instanceMethod yX9_read : Cond) ∈ UW := uw 1016 (by decide +kernel) rfl
theorem se_yX9_read : (.selects RX9 yX9_read yX9_read : Cond) ∈ UW := uw 1017 (by decide +kernel) rfl
theorem co_yX9_read : (.code yX9_read cX9_read 4 (Option.some Jvm.ClassFile.FieldType.int) : Cond) ∈ UW := uw 1018 (by decide +kernel) rfl
theorem cn_RX9_203 : (.constantLong RX9 203 (-2) : Cond) ∈ UW := uw 1019 (by decide +kernel) rfl
theorem ml_RX9_205 : (.methodLink RX9 205 yX9_findRow : Cond) ∈ UW := uw 1020 (by decide +kernel) rfl
theorem im_yX9_findRow : (.instanceMethod yX9_findRow : Cond) ∈ UW := uw 1022 (by decide +kernel) rfl
theorem co_yX9_findRow : (.code yX9_findRow cX9_findRow 5 (Option.none : Option Jvm.ClassFile.FieldType) : Cond) ∈ UW := uw 1023 (by decide +kernel) rfl
theorem ml_RX9_208 : (.methodLink RX9 208 yX9_tellRow : Cond) ∈ UW := uw 1024 (by decide +kernel) rfl
theorem im_yX9_tellRow : (.instanceMethod yX9_tellRow : Cond) ∈ UW := uw 1026 (by decide +kernel) rfl
theorem co_yX9_tellRow : (.code yX9_tellRow cX9_tellRow 2 (Option.some Jvm.ClassFile.FieldType.int) : Cond) ∈ UW := uw 1027 (by decide +kernel) rfl
theorem ml_RL_120 : (.methodLink RL 120 yX9_plan : Cond) ∈ UW := uw 1028 (by decide +kernel) rfl
theorem im_yX9_plan : (.instanceMethod yX9_plan : Cond) ∈ UW := uw 1029 (by decide +kernel) rfl
theorem se_yX9_plan : (.selects RX9 yX9_plan yX9_plan : Cond) ∈ UW := uw 1030 (by decide +kernel) rfl
theorem co_yX9_plan : (.code yX9_plan cX9_plan 4 (Option.some Jvm.ClassFile.FieldType.int) : Cond) ∈ UW := uw 1031 (by decide +kernel) rfl
theorem ml_RL_108 : (.methodLink RL 108 yX9_nearest : Cond) ∈ UW := uw 1032 (by decide +kernel) rfl
theorem im_yX9_nearest : (.instanceMethod yX9_nearest : Cond) ∈ UW := uw 1033 (by decide +kernel) rfl
theorem se_yX9_nearest : (.selects RX9 yX9_nearest yX9_nearest : Cond) ∈ UW := uw 1034 (by decide +kernel) rfl
theorem co_yX9_nearest : (.code yX9_nearest cX9_nearest 8 (Option.some Jvm.ClassFile.FieldType.int) : Cond) ∈ UW := uw 1035 (by decide +kernel) rfl
theorem ml_RL_124 : (.methodLink RL 124 yX9_write : Cond) ∈ UW := uw 1036 (by decide +kernel) rfl
theorem im_yX9_write : (.instanceMethod yX9_write : Cond) ∈ UW := uw 1037 (by decide +kernel) rfl
theorem se_yX9_write : (.selects RX9 yX9_write yX9_write : Cond) ∈ UW := uw 1038 (by decide +kernel) rfl
theorem co_yX9_write : (.code yX9_write cX9_write 5 (Option.some Jvm.ClassFile.FieldType.int) : Cond) ∈ UW := uw 1039 (by decide +kernel) rfl
theorem ml_RL_128 : (.methodLink RL 128 yX9_share : Cond) ∈ UW := uw 1040 (by decide +kernel) rfl
theorem im_yX9_share : (.instanceMethod yX9_share : Cond) ∈ UW := uw 1041 (by decide +kernel) rfl
theorem se_yX9_share : (.selects RX9 yX9_share yX9_share : Cond) ∈ UW := uw 1042 (by decide +kernel) rfl
theorem co_yX9_share : (.code yX9_share cX9_share 9 (Option.some Jvm.ClassFile.FieldType.int) : Cond) ∈ UW := uw 1043 (by decide +kernel) rfl
theorem ml_RL_132 : (.methodLink RL 132 yX9_sure : Cond) ∈ UW := uw 1044 (by decide +kernel) rfl
theorem im_yX9_sure : (.instanceMethod yX9_sure : Cond) ∈ UW := uw 1045 (by decide +kernel) rfl
theorem se_yX9_sure : (.selects RX9 yX9_sure yX9_sure : Cond) ∈ UW := uw 1046 (by decide +kernel) rfl
theorem co_yX9_sure : (.code yX9_sure cX9_sure 7 (Option.some Jvm.ClassFile.FieldType.int) : Cond) ∈ UW := uw 1047 (by decide +kernel) rfl
theorem ml_RX9_216 : (.methodLink RX9 216 yX9_findOdds : Cond) ∈ UW := uw 1048 (by decide +kernel) rfl
theorem im_yX9_findOdds : (.instanceMethod yX9_findOdds : Cond) ∈ UW := uw 1050 (by decide +kernel) rfl
theorem co_yX9_findOdds : (.code yX9_findOdds cX9_findOdds 8 (Option.none : Option Jvm.ClassFile.FieldType) : Cond) ∈ UW := uw 1051 (by decide +kernel) rfl
theorem ck_RX9_211 : (.constant RX9 211 (32768) : Cond) ∈ UW := uw 1052 (by decide +kernel) rfl
theorem ml_RX9_212 : (.methodLink RX9 212 yX9_power : Cond) ∈ UW := uw 1053 (by decide +kernel) rfl
theorem sm_yX9_power : (.static yX9_power : Cond) ∈ UW := uw 1054 (by decide +kernel) rfl
theorem co_yX9_power : (.code yX9_power cX9_power 5 (Option.some Jvm.ClassFile.FieldType.long) : Cond) ∈ UW := uw 1055 (by decide +kernel) rfl
theorem cn_RX9_220 : (.constantLong RX9 220 (1073741823) : Cond) ∈ UW := uw 1056 (by decide +kernel) rfl
theorem cn_RX9_222 : (.constantLong RX9 222 (1000) : Cond) ∈ UW := uw 1057 (by decide +kernel) rfl
theorem ml_RL_136 : (.methodLink RL 136 yX9_taken : Cond) ∈ UW := uw 1058 (by decide +kernel) rfl
theorem im_yX9_taken : (.instanceMethod yX9_taken : Cond) ∈ UW := uw 1059 (by decide +kernel) rfl
theorem se_yX9_taken : (.selects RX9 yX9_taken yX9_taken : Cond) ∈ UW := uw 1060 (by decide +kernel) rfl
theorem co_yX9_taken : (.code yX9_taken cX9_taken 7 (Option.some Jvm.ClassFile.FieldType.int) : Cond) ∈ UW := uw 1061 (by decide +kernel) rfl
theorem ml_RL_140 : (.methodLink RL 140 yX9_fades : Cond) ∈ UW := uw 1062 (by decide +kernel) rfl
theorem im_yX9_fades : (.instanceMethod yX9_fades : Cond) ∈ UW := uw 1063 (by decide +kernel) rfl
theorem se_yX9_fades : (.selects RX9 yX9_fades yX9_fades : Cond) ∈ UW := uw 1064 (by decide +kernel) rfl
theorem co_yX9_fades : (.code yX9_fades cX9_fades 5 (Option.some Jvm.ClassFile.FieldType.int) : Cond) ∈ UW := uw 1065 (by decide +kernel) rfl
theorem ml_RL_144 : (.methodLink RL 144 yX9_brief : Cond) ∈ UW := uw 1066 (by decide +kernel) rfl
theorem im_yX9_brief : (.instanceMethod yX9_brief : Cond) ∈ UW := uw 1067 (by decide +kernel) rfl
theorem se_yX9_brief : (.selects RX9 yX9_brief yX9_brief : Cond) ∈ UW := uw 1068 (by decide +kernel) rfl
theorem co_yX9_brief : (.code yX9_brief cX9_brief 6 (Option.some Jvm.ClassFile.FieldType.int) : Cond) ∈ UW := uw 1069 (by decide +kernel) rfl
theorem ml_RX9_224 : (.methodLink RX9 224 yX9_areLike : Cond) ∈ UW := uw 1070 (by decide +kernel) rfl
theorem im_yX9_areLike : (.instanceMethod yX9_areLike : Cond) ∈ UW := uw 1072 (by decide +kernel) rfl
theorem co_yX9_areLike : (.code yX9_areLike cX9_areLike 5 (Option.some Jvm.ClassFile.FieldType.boolean) : Cond) ∈ UW := uw 1073 (by decide +kernel) rfl
theorem ml_RX9_227 : (.methodLink RX9 227 yX9_isIn : Cond) ∈ UW := uw 1074 (by decide +kernel) rfl
theorem im_yX9_isIn : (.instanceMethod yX9_isIn : Cond) ∈ UW := uw 1076 (by decide +kernel) rfl
theorem co_yX9_isIn : (.code yX9_isIn cX9_isIn 6 (Option.some Jvm.ClassFile.FieldType.boolean) : Cond) ∈ UW := uw 1077 (by decide +kernel) rfl
theorem ml_RL_148 : (.methodLink RL 148 yX9_image : Cond) ∈ UW := uw 1078 (by decide +kernel) rfl
theorem im_yX9_image : (.instanceMethod yX9_image : Cond) ∈ UW := uw 1079 (by decide +kernel) rfl
theorem se_yX9_image : (.selects RX9 yX9_image yX9_image : Cond) ∈ UW := uw 1080 (by decide +kernel) rfl
theorem co_yX9_image : (.code yX9_image cX9_image 2 (Option.some Jvm.ClassFile.FieldType.int) : Cond) ∈ UW := uw 1081 (by decide +kernel) rfl
theorem ml_RX9_231 : (.methodLink RX9 231 yX9_carried : Cond) ∈ UW := uw 1082 (by decide +kernel) rfl
theorem im_yX9_carried : (.instanceMethod yX9_carried : Cond) ∈ UW := uw 1084 (by decide +kernel) rfl
theorem co_yX9_carried : (.code yX9_carried cX9_carried 5 (Option.some Jvm.ClassFile.FieldType.int) : Cond) ∈ UW := uw 1085 (by decide +kernel) rfl
theorem ml_RL_152 : (.methodLink RL 152 yX9_restore : Cond) ∈ UW := uw 1086 (by decide +kernel) rfl
theorem im_yX9_restore : (.instanceMethod yX9_restore : Cond) ∈ UW := uw 1087 (by decide +kernel) rfl
theorem se_yX9_restore : (.selects RX9 yX9_restore yX9_restore : Cond) ∈ UW := uw 1088 (by decide +kernel) rfl
theorem co_yX9_restore : (.code yX9_restore cX9_restore 2 (Option.some Jvm.ClassFile.FieldType.int) : Cond) ∈ UW := uw 1089 (by decide +kernel) rfl
theorem ml_RL_161 : (.methodLink RL 161 yX9_sheet : Cond) ∈ UW := uw 1090 (by decide +kernel) rfl
theorem im_yX9_sheet : (.instanceMethod yX9_sheet : Cond) ∈ UW := uw 1091 (by decide +kernel) rfl
theorem se_yX9_sheet : (.selects RX9 yX9_sheet yX9_sheet : Cond) ∈ UW := uw 1092 (by decide +kernel) rfl
theorem co_yX9_sheet : (.code yX9_sheet cX9_sheet 5 (Option.some Jvm.ClassFile.FieldType.int) : Cond) ∈ UW := uw 1093 (by decide +kernel) rfl
theorem ml_RX9_241 : (.methodLink RX9 241 yX9_isSheet : Cond) ∈ UW := uw 1094 (by decide +kernel) rfl
theorem sm_yX9_isSheet : (.static yX9_isSheet : Cond) ∈ UW := uw 1095 (by decide +kernel) rfl
theorem co_yX9_isSheet : (.code yX9_isSheet cX9_isSheet 2 (Option.some Jvm.ClassFile.FieldType.boolean) : Cond) ∈ UW := uw 1096 (by decide +kernel) rfl
theorem cn_RX9_239 : (.constantLong RX9 239 (2) : Cond) ∈ UW := uw 1097 (by decide +kernel) rfl
theorem ml_RL_165 : (.methodLink RL 165 yX9_drop : Cond) ∈ UW := uw 1098 (by decide +kernel) rfl
theorem im_yX9_drop : (.instanceMethod yX9_drop : Cond) ∈ UW := uw 1099 (by decide +kernel) rfl
theorem se_yX9_drop : (.selects RX9 yX9_drop yX9_drop : Cond) ∈ UW := uw 1100 (by decide +kernel) rfl
theorem co_yX9_drop : (.code yX9_drop cX9_drop 2 (Option.some Jvm.ClassFile.FieldType.int) : Cond) ∈ UW := uw 1101 (by decide +kernel) rfl
theorem ml_RL_169 : (.methodLink RL 169 yX9_item : Cond) ∈ UW := uw 1102 (by decide +kernel) rfl
theorem im_yX9_item : (.instanceMethod yX9_item : Cond) ∈ UW := uw 1103 (by decide +kernel) rfl
theorem se_yX9_item : (.selects RX9 yX9_item yX9_item : Cond) ∈ UW := uw 1104 (by decide +kernel) rfl
theorem co_yX9_item : (.code yX9_item cX9_item 6 (Option.some Jvm.ClassFile.FieldType.int) : Cond) ∈ UW := uw 1105 (by decide +kernel) rfl
theorem ml_RX9_244 : (.methodLink RX9 244 yX9_lacksRow : Cond) ∈ UW := uw 1106 (by decide +kernel) rfl
theorem im_yX9_lacksRow : (.instanceMethod yX9_lacksRow : Cond) ∈ UW := uw 1108 (by decide +kernel) rfl
theorem co_yX9_lacksRow : (.code yX9_lacksRow cX9_lacksRow 5 (Option.some Jvm.ClassFile.FieldType.int) : Cond) ∈ UW := uw 1109 (by decide +kernel) rfl
theorem ml_RL_157 : (.methodLink RL 157 yX9_sow : Cond) ∈ UW := uw 1110 (by decide +kernel) rfl
theorem im_yX9_sow : (.instanceMethod yX9_sow : Cond) ∈ UW := uw 1111 (by decide +kernel) rfl
theorem se_yX9_sow : (.selects RX9 yX9_sow yX9_sow : Cond) ∈ UW := uw 1112 (by decide +kernel) rfl
theorem co_yX9_sow : (.code yX9_sow cX9_sow 9 (Option.some Jvm.ClassFile.FieldType.int) : Cond) ∈ UW := uw 1113 (by decide +kernel) rfl
theorem cn_RX9_248 : (.constantLong RX9 248 (9) : Cond) ∈ UW := uw 1114 (by decide +kernel) rfl
theorem ml_RL_173 : (.methodLink RL 173 yX9_film : Cond) ∈ UW := uw 1115 (by decide +kernel) rfl
theorem im_yX9_film : (.instanceMethod yX9_film : Cond) ∈ UW := uw 1116 (by decide +kernel) rfl
theorem se_yX9_film : (.selects RX9 yX9_film yX9_film : Cond) ∈ UW := uw 1117 (by decide +kernel) rfl
theorem co_yX9_film : (.code yX9_film cX9_film 6 (Option.some Jvm.ClassFile.FieldType.int) : Cond) ∈ UW := uw 1118 (by decide +kernel) rfl
theorem cn_RL_64 : (.constantLong RL 64 (4294967295) : Cond) ∈ UW := uw 1119 (by decide +kernel) rfl
theorem fx_X0 : ∀ w ∈ u_ws RX0 TX0 7, w ∈ UW := by decide +kernel
theorem fx_X1 : ∀ w ∈ u_ws RX1 TX1 3, w ∈ UW := by decide +kernel
theorem fx_X2 : ∀ w ∈ u_ws RX2 TX2 4, w ∈ UW := by decide +kernel
theorem fx_X3 : ∀ w ∈ u_ws RX3 TX3 3, w ∈ UW := by decide +kernel
theorem fx_X4 : ∀ w ∈ u_ws RX4 TX4 2, w ∈ UW := by decide +kernel
theorem fx_X5 : ∀ w ∈ u_ws RX5 TX5 1, w ∈ UW := by decide +kernel
theorem fx_X6 : ∀ w ∈ u_ws RX6 TX6 5, w ∈ UW := by decide +kernel
theorem fx_X7 : ∀ w ∈ u_ws RX7 TX7 3, w ∈ UW := by decide +kernel
theorem fx_X8 : ∀ w ∈ u_ws RX8 TX8 7, w ∈ UW := by decide +kernel
theorem fx_X9 : ∀ w ∈ u_ws RX9 TX9 27, w ∈ UW := by decide +kernel
theorem nl_RX0_9 : (.fieldLinkNest RX0 9 "MownWords" "FIRST_SETTINGS" "[I" "MownWords" : Cond) ∈ lw_tbl := List.mem_of_getElem? (i := 70) (by decide +kernel)
theorem nl_RX0_49 : (.methodLinkNest RX0 49 yX4_init "MownWords" : Cond) ∈ lw_tbl := List.mem_of_getElem? (i := 80) (by decide +kernel)
theorem nl_RX0_50 : (.methodLinkNest RX0 50 yX7_init "MownWords" : Cond) ∈ lw_tbl := List.mem_of_getElem? (i := 95) (by decide +kernel)
theorem nl_RX8_25 : (.methodLinkNest RX8 25 yX2_init "MownWords" : Cond) ∈ lw_tbl := List.mem_of_getElem? (i := 153) (by decide +kernel)
theorem nl_RX8_32 : (.methodLinkNest RX8 32 yX1_init "MownWords" : Cond) ∈ lw_tbl := List.mem_of_getElem? (i := 174) (by decide +kernel)
theorem nl_RX6_32 : (.methodLinkNest RX6 32 yX7_init "MownWords" : Cond) ∈ lw_tbl := List.mem_of_getElem? (i := 198) (by decide +kernel)
theorem nl_RX8_50 : (.methodLinkNest RX8 50 yX3_init "MownWords" : Cond) ∈ lw_tbl := List.mem_of_getElem? (i := 222) (by decide +kernel)
theorem nl_RX0_92 : (.methodLinkNest RX0 92 yX8_closestKey "MownWords" : Cond) ∈ lw_tbl := List.mem_of_getElem? (i := 324) (by decide +kernel)
theorem nl_RX6_33 : (.methodLinkNest RX6 33 yX8_isBelow "MownWords" : Cond) ∈ lw_tbl := List.mem_of_getElem? (i := 408) (by decide +kernel)
theorem nl_RX2_66 : (.methodLinkNest RX2 66 yX8_isBelow "MownWords" : Cond) ∈ lw_tbl := List.mem_of_getElem? (i := 531) (by decide +kernel)
theorem nl_RX0_105 : (.fieldLinkNest RX0 105 "MownWords" "SHAPES" "[I" "MownWords" : Cond) ∈ lw_tbl := List.mem_of_getElem? (i := 541) (by decide +kernel)
theorem nl_RX1_43 : (.fieldLinkNest RX1 43 "MownWords" "SHAPES" "[I" "MownWords" : Cond) ∈ lw_tbl := List.mem_of_getElem? (i := 615) (by decide +kernel)
/-- the links to nest mates: true at every state of the launch -/
def Nw (U : State) : Prop := va_Nw (.fieldLinkNest RX0 9 "MownWords" "FIRST_SETTINGS" "[I" "MownWords") U ∧ va_Nw (.methodLinkNest RX0 49 yX4_init "MownWords") U ∧ va_Nw (.methodLinkNest RX0 50 yX7_init "MownWords") U ∧ va_Nw (.methodLinkNest RX8 25 yX2_init "MownWords") U ∧ va_Nw (.methodLinkNest RX8 32 yX1_init "MownWords") U ∧ va_Nw (.methodLinkNest RX6 32 yX7_init "MownWords") U ∧ va_Nw (.methodLinkNest RX8 50 yX3_init "MownWords") U ∧ va_Nw (.methodLinkNest RX0 92 yX8_closestKey "MownWords") U ∧ va_Nw (.methodLinkNest RX6 33 yX8_isBelow "MownWords") U ∧ va_Nw (.methodLinkNest RX2 66 yX8_isBelow "MownWords") U ∧ va_Nw (.fieldLinkNest RX0 105 "MownWords" "SHAPES" "[I" "MownWords") U ∧ va_Nw (.fieldLinkNest RX1 43 "MownWords" "SHAPES" "[I" "MownWords") U
theorem Nw.warm {s U : State} (hW : s.WarmedH U.vm) (h : Nw s) : Nw U := by
  obtain ⟨h0, h1, h2, h3, h4, h5, h6, h7, h8, h9, h10, h11⟩ := h
  exact ⟨va_Nw.warmF hW h0, va_Nw.warmM hW h1, va_Nw.warmM hW h2, va_Nw.warmM hW h3, va_Nw.warmM hW h4, va_Nw.warmM hW h5, va_Nw.warmM hW h6, va_Nw.warmM hW h7, va_Nw.warmM hW h8, va_Nw.warmM hW h9, va_Nw.warmF hW h10, va_Nw.warmF hW h11⟩
theorem nv_RX0_9 {U : State} (h : Nw U) : va_Nw (.fieldLinkNest RX0 9 "MownWords" "FIRST_SETTINGS" "[I" "MownWords") U := h.1
theorem nv_RX0_49 {U : State} (h : Nw U) : va_Nw (.methodLinkNest RX0 49 yX4_init "MownWords") U := h.2.1
theorem nv_RX0_50 {U : State} (h : Nw U) : va_Nw (.methodLinkNest RX0 50 yX7_init "MownWords") U := h.2.2.1
theorem nv_RX8_25 {U : State} (h : Nw U) : va_Nw (.methodLinkNest RX8 25 yX2_init "MownWords") U := h.2.2.2.1
theorem nv_RX8_32 {U : State} (h : Nw U) : va_Nw (.methodLinkNest RX8 32 yX1_init "MownWords") U := h.2.2.2.2.1
theorem nv_RX6_32 {U : State} (h : Nw U) : va_Nw (.methodLinkNest RX6 32 yX7_init "MownWords") U := h.2.2.2.2.2.1
theorem nv_RX8_50 {U : State} (h : Nw U) : va_Nw (.methodLinkNest RX8 50 yX3_init "MownWords") U := h.2.2.2.2.2.2.1
theorem nv_RX0_92 {U : State} (h : Nw U) : va_Nw (.methodLinkNest RX0 92 yX8_closestKey "MownWords") U := h.2.2.2.2.2.2.2.1
theorem nv_RX6_33 {U : State} (h : Nw U) : va_Nw (.methodLinkNest RX6 33 yX8_isBelow "MownWords") U := h.2.2.2.2.2.2.2.2.1
theorem nv_RX2_66 {U : State} (h : Nw U) : va_Nw (.methodLinkNest RX2 66 yX8_isBelow "MownWords") U := h.2.2.2.2.2.2.2.2.2.1
theorem nv_RX0_105 {U : State} (h : Nw U) : va_Nw (.fieldLinkNest RX0 105 "MownWords" "SHAPES" "[I" "MownWords") U := h.2.2.2.2.2.2.2.2.2.2.1
theorem nv_RX1_43 {U : State} (h : Nw U) : va_Nw (.fieldLinkNest RX1 43 "MownWords" "SHAPES" "[I" "MownWords") U := h.2.2.2.2.2.2.2.2.2.2.2
end
section
abbrev Mem : Type := Nat → Nat → Int32
abbrev MemL : Type := Nat → Nat → Int64
def kdL : List Nat := [0, 1, 10, 13, 14, 10, 10, 2, 10, 2, 10, 2, 10, 2, 10, 2, 10, 2, 10, 2, 10, 2, 10, 2, 10, 3, 10, 3, 10, 3, 10, 3, 10, 3, 10, 3, 10, 3, 10, 3, 10, 3, 10, 3, 10, 1, 10, 13, 14, 10, 10, 2, 10, 2, 10, 2, 10, 2, 10, 2, 10, 2, 10, 2, 10, 2, 10, 2, 10, 3, 10, 3, 10, 3, 10, 3, 10, 3, 10, 3, 10, 3, 10, 3, 10, 3, 10, 3, 10, 4, 16, 10, 10, 10, 10, 10, 10, 10, 10, 10, 10, 10, 5, 18, 12, 6, 11, 10, 15, 3, 10, 3, 10, 3, 10, 3, 10, 17, 7, 10, 7, 10, 7, 10, 7, 10, 20, 21, 21, 21, 21, 21, 21, 21, 21, 21, 21, 21, 21, 21, 22, 21, 21, 21, 21, 21, 21]
def lnL : List Nat := [0, 0, 4, 9, 10, 6, 6, 0, 15, 0, 15, 0, 15, 0, 15, 0, 15, 0, 15, 0, 15, 0, 15, 0, 15, 0, 6, 0, 6, 0, 6, 0, 6, 0, 6, 0, 6, 0, 6, 0, 6, 0, 6, 0, 6, 0, 4, 9, 10, 6, 6, 0, 15, 0, 15, 0, 15, 0, 15, 0, 15, 0, 15, 0, 15, 0, 15, 0, 15, 0, 6, 0, 6, 0, 6, 0, 6, 0, 6, 0, 6, 0, 6, 0, 6, 0, 6, 0, 6, 0, 9, 10, 10, 10, 10, 10, 10, 10, 10, 10, 10, 9, 0, 26, 16, 0, 80, 9, 4, 0, 6, 0, 6, 0, 6, 0, 6, 4, 0, 24, 0, 24, 0, 24, 0, 24, 0, 26, 9, 135, 6, 4, 36, 80, 80, 40, 10, 9, 90, 90, 26, 135, 270, 2, 4, 4, 96]
def kd (k : Nat) : Nat := kdL.getD k 99
def ln (k : Nat) : Nat := lnL.getD k 0
theorem kd_lt {k c : Nat} (h : kd k = c) (hc : c < 99) : k < 147 := by
  rcases Nat.lt_or_ge k 147 with q | q
  · exact q
  · exfalso
    unfold kd at h
    rw [List.getD_eq_getElem?_getD, List.getElem?_eq_none (by simpa [kdL] using q)] at h
    simp at h
    omega
def wcellK (c : Nat) (cid : Nat → ClassId) (ad : Nat → Nat) (M : Mem) (L : MemL) (k : Nat) : va_E := match c with
  | 0 => .inr (8, [.ref (ad (k + 1)), .ref (ad (k + 45)), .int (M k 2), .ref (ad (k + 89)), .ref (ad (k + 102)), .ref (ad (k + 105)), .ref (ad (k + 117))])
  | 1 => .inr (0, [.ref (ad (k + 1)), .ref (ad (k + 2)), .int (M k 2), .ref (ad (k + 3)), .int (M k 4), .ref (ad (k + 4)), .ref (ad (k + 5))])
  | 2 => .inr (4, [.int (M k 0), .ref (ad (k + 1))])
  | 3 => .inr (7, [.int (M k 0), .int (M k 1), .ref (ad (k + 1))])
  | 4 => .inr (2, [.ref (ad (k + 1)), .ref (ad (k + 11)), .ref (ad (k + 12)), .int (M k 3)])
  | 5 => .inr (1, [.null, .ref (ad (k + 1)), .ref (ad (k + 2))])
  | 6 => .inr (6, [.ref (ad (k + 1)), .int (M k 1), .ref (ad (k + 2)), .ref (ad (k + 3)), .int (M k 4)])
  | 7 => .inr (3, [.int (M k 0), .int (M k 1), .ref (ad (k + 1))])
  | 20 => .inr (9, [.ref (ad (k + 1)), .ref (ad (k + 2)), .ref (ad (k + 3)), .ref (ad (k + 4)), .ref (ad (k + 5)), .ref (ad (k + 6)), .ref (ad (k + 7)), .int (M k 7), .int (M k 8), .ref (ad (k + 8)), .int (M k 10), .int (M k 11), .int (M k 12), .ref (ad (k + 9)), .ref (ad (k + 10)), .ref (ad (k + 11)), .int (M k 16), .ref (ad (k + 12)), .ref (ad (k + 13)), .ref (ad (k + 14)), .ref (ad (k + 15)), .int (M k 21), .ref (ad (k + 16)), .ref (ad (k + 17)), .ref (ad (k + 18)), .ref (ad (k + 19)), .ref (ad (k + 20))])
  | 10 => .inl (cid 0, ln k, .inl (M k))
  | 11 => .inl (cid 1, ln k, .inl (M k))
  | 21 => .inl (cid 0, ln k, .inl (M k))
  | 12 => .inl (cid 2, ln k, .inr (.inl (L k)))
  | 22 => .inl (cid 2, ln k, .inr (.inl (L k)))
  | 13 => .inl (cid 3, 9, .inr (.inr (.inr (.inr (fun j => some (ad (k + 4 + 2 * j)))))))
  | 14 => .inl (cid 4, 10, .inr (.inr (.inr (.inr (fun j => some (ad (k + 21 + 2 * j)))))))
  | 15 => .inl (cid 4, 4, .inr (.inr (.inr (.inr (fun j => some (ad (k + 1 + 2 * j)))))))
  | 16 => .inl (cid 5, 9, .inr (.inr (.inr (.inr (fun j => some (ad (k + 1 + j)))))))
  | 17 => .inl (cid 6, 4, .inr (.inr (.inr (.inr (fun j => some (ad (k + 1 + 2 * j)))))))
  | _ => .inl (cid 7, ln k, .inr (.inr (.inr (.inr (fun _ => none)))))
def wcell (cid : Nat → ClassId) (ad : Nat → Nat) (M : Mem) (L : MemL) (k : Nat) : va_E := wcellK (kd k) cid ad M L k
abbrev tysL (cid : Nat → ClassId) : List (ClassId × FieldType) := [(cid 0, .int), (cid 1, .byte), (cid 2, .long), (cid 3, .object "MownWords$Strip"), (cid 4, .object "MownWords$Word"), (cid 5, .array .int), (cid 6, .object "MownWords$Sheet"), (cid 7, .object "MownWords$Tally")]
theorem wc_0 {cid : Nat → ClassId} {ad : Nat → Nat} {M : Mem} {L : MemL} {k : Nat} (h : kd k = 0) : wcell cid ad M L k = .inr (8, [.ref (ad (k + 1)), .ref (ad (k + 45)), .int (M k 2), .ref (ad (k + 89)), .ref (ad (k + 102)), .ref (ad (k + 105)), .ref (ad (k + 117))]) := congrArg (fun c => wcellK c cid ad M L k) h
theorem wc_1 {cid : Nat → ClassId} {ad : Nat → Nat} {M : Mem} {L : MemL} {k : Nat} (h : kd k = 1) : wcell cid ad M L k = .inr (0, [.ref (ad (k + 1)), .ref (ad (k + 2)), .int (M k 2), .ref (ad (k + 3)), .int (M k 4), .ref (ad (k + 4)), .ref (ad (k + 5))]) := congrArg (fun c => wcellK c cid ad M L k) h
theorem wc_2 {cid : Nat → ClassId} {ad : Nat → Nat} {M : Mem} {L : MemL} {k : Nat} (h : kd k = 2) : wcell cid ad M L k = .inr (4, [.int (M k 0), .ref (ad (k + 1))]) := congrArg (fun c => wcellK c cid ad M L k) h
theorem wc_3 {cid : Nat → ClassId} {ad : Nat → Nat} {M : Mem} {L : MemL} {k : Nat} (h : kd k = 3) : wcell cid ad M L k = .inr (7, [.int (M k 0), .int (M k 1), .ref (ad (k + 1))]) := congrArg (fun c => wcellK c cid ad M L k) h
theorem wc_4 {cid : Nat → ClassId} {ad : Nat → Nat} {M : Mem} {L : MemL} {k : Nat} (h : kd k = 4) : wcell cid ad M L k = .inr (2, [.ref (ad (k + 1)), .ref (ad (k + 11)), .ref (ad (k + 12)), .int (M k 3)]) := congrArg (fun c => wcellK c cid ad M L k) h
theorem wc_5 {cid : Nat → ClassId} {ad : Nat → Nat} {M : Mem} {L : MemL} {k : Nat} (h : kd k = 5) : wcell cid ad M L k = .inr (1, [.null, .ref (ad (k + 1)), .ref (ad (k + 2))]) := congrArg (fun c => wcellK c cid ad M L k) h
theorem wc_6 {cid : Nat → ClassId} {ad : Nat → Nat} {M : Mem} {L : MemL} {k : Nat} (h : kd k = 6) : wcell cid ad M L k = .inr (6, [.ref (ad (k + 1)), .int (M k 1), .ref (ad (k + 2)), .ref (ad (k + 3)), .int (M k 4)]) := congrArg (fun c => wcellK c cid ad M L k) h
theorem wc_7 {cid : Nat → ClassId} {ad : Nat → Nat} {M : Mem} {L : MemL} {k : Nat} (h : kd k = 7) : wcell cid ad M L k = .inr (3, [.int (M k 0), .int (M k 1), .ref (ad (k + 1))]) := congrArg (fun c => wcellK c cid ad M L k) h
theorem wc_20 {cid : Nat → ClassId} {ad : Nat → Nat} {M : Mem} {L : MemL} {k : Nat} (h : kd k = 20) : wcell cid ad M L k = .inr (9, [.ref (ad (k + 1)), .ref (ad (k + 2)), .ref (ad (k + 3)), .ref (ad (k + 4)), .ref (ad (k + 5)), .ref (ad (k + 6)), .ref (ad (k + 7)), .int (M k 7), .int (M k 8), .ref (ad (k + 8)), .int (M k 10), .int (M k 11), .int (M k 12), .ref (ad (k + 9)), .ref (ad (k + 10)), .ref (ad (k + 11)), .int (M k 16), .ref (ad (k + 12)), .ref (ad (k + 13)), .ref (ad (k + 14)), .ref (ad (k + 15)), .int (M k 21), .ref (ad (k + 16)), .ref (ad (k + 17)), .ref (ad (k + 18)), .ref (ad (k + 19)), .ref (ad (k + 20))]) := congrArg (fun c => wcellK c cid ad M L k) h
theorem wc_10 {cid : Nat → ClassId} {ad : Nat → Nat} {M : Mem} {L : MemL} {k : Nat} (h : kd k = 10) : wcell cid ad M L k = .inl (cid 0, ln k, .inl (M k)) := congrArg (fun c => wcellK c cid ad M L k) h
theorem wc_11 {cid : Nat → ClassId} {ad : Nat → Nat} {M : Mem} {L : MemL} {k : Nat} (h : kd k = 11) : wcell cid ad M L k = .inl (cid 1, ln k, .inl (M k)) := congrArg (fun c => wcellK c cid ad M L k) h
theorem wc_21 {cid : Nat → ClassId} {ad : Nat → Nat} {M : Mem} {L : MemL} {k : Nat} (h : kd k = 21) : wcell cid ad M L k = .inl (cid 0, ln k, .inl (M k)) := congrArg (fun c => wcellK c cid ad M L k) h
theorem wc_12 {cid : Nat → ClassId} {ad : Nat → Nat} {M : Mem} {L : MemL} {k : Nat} (h : kd k = 12) : wcell cid ad M L k = .inl (cid 2, ln k, .inr (.inl (L k))) := congrArg (fun c => wcellK c cid ad M L k) h
theorem wc_22 {cid : Nat → ClassId} {ad : Nat → Nat} {M : Mem} {L : MemL} {k : Nat} (h : kd k = 22) : wcell cid ad M L k = .inl (cid 2, ln k, .inr (.inl (L k))) := congrArg (fun c => wcellK c cid ad M L k) h
theorem wc_13 {cid : Nat → ClassId} {ad : Nat → Nat} {M : Mem} {L : MemL} {k : Nat} (h : kd k = 13) : wcell cid ad M L k = .inl (cid 3, 9, .inr (.inr (.inr (.inr (fun j => some (ad (k + 4 + 2 * j))))))) := congrArg (fun c => wcellK c cid ad M L k) h
theorem wc_14 {cid : Nat → ClassId} {ad : Nat → Nat} {M : Mem} {L : MemL} {k : Nat} (h : kd k = 14) : wcell cid ad M L k = .inl (cid 4, 10, .inr (.inr (.inr (.inr (fun j => some (ad (k + 21 + 2 * j))))))) := congrArg (fun c => wcellK c cid ad M L k) h
theorem wc_15 {cid : Nat → ClassId} {ad : Nat → Nat} {M : Mem} {L : MemL} {k : Nat} (h : kd k = 15) : wcell cid ad M L k = .inl (cid 4, 4, .inr (.inr (.inr (.inr (fun j => some (ad (k + 1 + 2 * j))))))) := congrArg (fun c => wcellK c cid ad M L k) h
theorem wc_16 {cid : Nat → ClassId} {ad : Nat → Nat} {M : Mem} {L : MemL} {k : Nat} (h : kd k = 16) : wcell cid ad M L k = .inl (cid 5, 9, .inr (.inr (.inr (.inr (fun j => some (ad (k + 1 + j))))))) := congrArg (fun c => wcellK c cid ad M L k) h
theorem wc_17 {cid : Nat → ClassId} {ad : Nat → Nat} {M : Mem} {L : MemL} {k : Nat} (h : kd k = 17) : wcell cid ad M L k = .inl (cid 6, 4, .inr (.inr (.inr (.inr (fun j => some (ad (k + 1 + 2 * j))))))) := congrArg (fun c => wcellK c cid ad M L k) h
theorem ch_0_0 {k : Nat} (h : kd k = 0) : kd (k + 1) = 1 ∧ ln (k + 1) = 0 := (by decide +kernel : ∀ k, k < 147 → kd k = 0 → kd (k + 1) = 1 ∧ ln (k + 1) = 0) k (kd_lt h (by decide)) h
theorem ch_0_1 {k : Nat} (h : kd k = 0) : kd (k + 45) = 1 ∧ ln (k + 45) = 0 := (by decide +kernel : ∀ k, k < 147 → kd k = 0 → kd (k + 45) = 1 ∧ ln (k + 45) = 0) k (kd_lt h (by decide)) h
theorem ch_0_3 {k : Nat} (h : kd k = 0) : kd (k + 89) = 4 ∧ ln (k + 89) = 0 := (by decide +kernel : ∀ k, k < 147 → kd k = 0 → kd (k + 89) = 4 ∧ ln (k + 89) = 0) k (kd_lt h (by decide)) h
theorem ch_0_4 {k : Nat} (h : kd k = 0) : kd (k + 102) = 5 ∧ ln (k + 102) = 0 := (by decide +kernel : ∀ k, k < 147 → kd k = 0 → kd (k + 102) = 5 ∧ ln (k + 102) = 0) k (kd_lt h (by decide)) h
theorem ch_0_5 {k : Nat} (h : kd k = 0) : kd (k + 105) = 6 ∧ ln (k + 105) = 0 := (by decide +kernel : ∀ k, k < 147 → kd k = 0 → kd (k + 105) = 6 ∧ ln (k + 105) = 0) k (kd_lt h (by decide)) h
theorem ch_0_6 {k : Nat} (h : kd k = 0) : kd (k + 117) = 17 ∧ ln (k + 117) = 4 := (by decide +kernel : ∀ k, k < 147 → kd k = 0 → kd (k + 117) = 17 ∧ ln (k + 117) = 4) k (kd_lt h (by decide)) h
theorem ch_1_0 {k : Nat} (h : kd k = 1) : kd (k + 1) = 10 ∧ ln (k + 1) = 4 := (by decide +kernel : ∀ k, k < 147 → kd k = 1 → kd (k + 1) = 10 ∧ ln (k + 1) = 4) k (kd_lt h (by decide)) h
theorem ch_1_1 {k : Nat} (h : kd k = 1) : kd (k + 2) = 13 ∧ ln (k + 2) = 9 := (by decide +kernel : ∀ k, k < 147 → kd k = 1 → kd (k + 2) = 13 ∧ ln (k + 2) = 9) k (kd_lt h (by decide)) h
theorem ch_1_3 {k : Nat} (h : kd k = 1) : kd (k + 3) = 14 ∧ ln (k + 3) = 10 := (by decide +kernel : ∀ k, k < 147 → kd k = 1 → kd (k + 3) = 14 ∧ ln (k + 3) = 10) k (kd_lt h (by decide)) h
theorem ch_1_5 {k : Nat} (h : kd k = 1) : kd (k + 4) = 10 ∧ ln (k + 4) = 6 := (by decide +kernel : ∀ k, k < 147 → kd k = 1 → kd (k + 4) = 10 ∧ ln (k + 4) = 6) k (kd_lt h (by decide)) h
theorem ch_1_6 {k : Nat} (h : kd k = 1) : kd (k + 5) = 10 ∧ ln (k + 5) = 6 := (by decide +kernel : ∀ k, k < 147 → kd k = 1 → kd (k + 5) = 10 ∧ ln (k + 5) = 6) k (kd_lt h (by decide)) h
theorem ch_2_1 {k : Nat} (h : kd k = 2) : kd (k + 1) = 10 ∧ ln (k + 1) = 15 := (by decide +kernel : ∀ k, k < 147 → kd k = 2 → kd (k + 1) = 10 ∧ ln (k + 1) = 15) k (kd_lt h (by decide)) h
theorem ch_3_2 {k : Nat} (h : kd k = 3) : kd (k + 1) = 10 ∧ ln (k + 1) = 6 := (by decide +kernel : ∀ k, k < 147 → kd k = 3 → kd (k + 1) = 10 ∧ ln (k + 1) = 6) k (kd_lt h (by decide)) h
theorem ch_4_0 {k : Nat} (h : kd k = 4) : kd (k + 1) = 16 ∧ ln (k + 1) = 9 := (by decide +kernel : ∀ k, k < 147 → kd k = 4 → kd (k + 1) = 16 ∧ ln (k + 1) = 9) k (kd_lt h (by decide)) h
theorem ch_4_1 {k : Nat} (h : kd k = 4) : kd (k + 11) = 10 ∧ ln (k + 11) = 10 := (by decide +kernel : ∀ k, k < 147 → kd k = 4 → kd (k + 11) = 10 ∧ ln (k + 11) = 10) k (kd_lt h (by decide)) h
theorem ch_4_2 {k : Nat} (h : kd k = 4) : kd (k + 12) = 10 ∧ ln (k + 12) = 9 := (by decide +kernel : ∀ k, k < 147 → kd k = 4 → kd (k + 12) = 10 ∧ ln (k + 12) = 9) k (kd_lt h (by decide)) h
theorem ch_5_1 {k : Nat} (h : kd k = 5) : kd (k + 1) = 18 ∧ ln (k + 1) = 26 := (by decide +kernel : ∀ k, k < 147 → kd k = 5 → kd (k + 1) = 18 ∧ ln (k + 1) = 26) k (kd_lt h (by decide)) h
theorem ch_5_2 {k : Nat} (h : kd k = 5) : kd (k + 2) = 12 ∧ ln (k + 2) = 16 := (by decide +kernel : ∀ k, k < 147 → kd k = 5 → kd (k + 2) = 12 ∧ ln (k + 2) = 16) k (kd_lt h (by decide)) h
theorem ch_6_0 {k : Nat} (h : kd k = 6) : kd (k + 1) = 11 ∧ ln (k + 1) = 80 := (by decide +kernel : ∀ k, k < 147 → kd k = 6 → kd (k + 1) = 11 ∧ ln (k + 1) = 80) k (kd_lt h (by decide)) h
theorem ch_6_2 {k : Nat} (h : kd k = 6) : kd (k + 2) = 10 ∧ ln (k + 2) = 9 := (by decide +kernel : ∀ k, k < 147 → kd k = 6 → kd (k + 2) = 10 ∧ ln (k + 2) = 9) k (kd_lt h (by decide)) h
theorem ch_6_3 {k : Nat} (h : kd k = 6) : kd (k + 3) = 15 ∧ ln (k + 3) = 4 := (by decide +kernel : ∀ k, k < 147 → kd k = 6 → kd (k + 3) = 15 ∧ ln (k + 3) = 4) k (kd_lt h (by decide)) h
theorem ch_7_2 {k : Nat} (h : kd k = 7) : kd (k + 1) = 10 ∧ ln (k + 1) = 24 := (by decide +kernel : ∀ k, k < 147 → kd k = 7 → kd (k + 1) = 10 ∧ ln (k + 1) = 24) k (kd_lt h (by decide)) h
theorem ch_20_0 {k : Nat} (h : kd k = 20) : kd (k + 1) = 21 ∧ ln (k + 1) = 26 := (by decide +kernel : ∀ k, k < 147 → kd k = 20 → kd (k + 1) = 21 ∧ ln (k + 1) = 26) k (kd_lt h (by decide)) h
theorem ch_20_1 {k : Nat} (h : kd k = 20) : kd (k + 2) = 21 ∧ ln (k + 2) = 9 := (by decide +kernel : ∀ k, k < 147 → kd k = 20 → kd (k + 2) = 21 ∧ ln (k + 2) = 9) k (kd_lt h (by decide)) h
theorem ch_20_2 {k : Nat} (h : kd k = 20) : kd (k + 3) = 21 ∧ ln (k + 3) = 135 := (by decide +kernel : ∀ k, k < 147 → kd k = 20 → kd (k + 3) = 21 ∧ ln (k + 3) = 135) k (kd_lt h (by decide)) h
theorem ch_20_3 {k : Nat} (h : kd k = 20) : kd (k + 4) = 21 ∧ ln (k + 4) = 6 := (by decide +kernel : ∀ k, k < 147 → kd k = 20 → kd (k + 4) = 21 ∧ ln (k + 4) = 6) k (kd_lt h (by decide)) h
theorem ch_20_4 {k : Nat} (h : kd k = 20) : kd (k + 5) = 21 ∧ ln (k + 5) = 4 := (by decide +kernel : ∀ k, k < 147 → kd k = 20 → kd (k + 5) = 21 ∧ ln (k + 5) = 4) k (kd_lt h (by decide)) h
theorem ch_20_5 {k : Nat} (h : kd k = 20) : kd (k + 6) = 21 ∧ ln (k + 6) = 36 := (by decide +kernel : ∀ k, k < 147 → kd k = 20 → kd (k + 6) = 21 ∧ ln (k + 6) = 36) k (kd_lt h (by decide)) h
theorem ch_20_6 {k : Nat} (h : kd k = 20) : kd (k + 7) = 21 ∧ ln (k + 7) = 80 := (by decide +kernel : ∀ k, k < 147 → kd k = 20 → kd (k + 7) = 21 ∧ ln (k + 7) = 80) k (kd_lt h (by decide)) h
theorem ch_20_9 {k : Nat} (h : kd k = 20) : kd (k + 8) = 21 ∧ ln (k + 8) = 80 := (by decide +kernel : ∀ k, k < 147 → kd k = 20 → kd (k + 8) = 21 ∧ ln (k + 8) = 80) k (kd_lt h (by decide)) h
theorem ch_20_13 {k : Nat} (h : kd k = 20) : kd (k + 9) = 21 ∧ ln (k + 9) = 40 := (by decide +kernel : ∀ k, k < 147 → kd k = 20 → kd (k + 9) = 21 ∧ ln (k + 9) = 40) k (kd_lt h (by decide)) h
theorem ch_20_14 {k : Nat} (h : kd k = 20) : kd (k + 10) = 21 ∧ ln (k + 10) = 10 := (by decide +kernel : ∀ k, k < 147 → kd k = 20 → kd (k + 10) = 21 ∧ ln (k + 10) = 10) k (kd_lt h (by decide)) h
theorem ch_20_15 {k : Nat} (h : kd k = 20) : kd (k + 11) = 21 ∧ ln (k + 11) = 9 := (by decide +kernel : ∀ k, k < 147 → kd k = 20 → kd (k + 11) = 21 ∧ ln (k + 11) = 9) k (kd_lt h (by decide)) h
theorem ch_20_17 {k : Nat} (h : kd k = 20) : kd (k + 12) = 21 ∧ ln (k + 12) = 90 := (by decide +kernel : ∀ k, k < 147 → kd k = 20 → kd (k + 12) = 21 ∧ ln (k + 12) = 90) k (kd_lt h (by decide)) h
theorem ch_20_18 {k : Nat} (h : kd k = 20) : kd (k + 13) = 21 ∧ ln (k + 13) = 90 := (by decide +kernel : ∀ k, k < 147 → kd k = 20 → kd (k + 13) = 21 ∧ ln (k + 13) = 90) k (kd_lt h (by decide)) h
theorem ch_20_19 {k : Nat} (h : kd k = 20) : kd (k + 14) = 22 ∧ ln (k + 14) = 26 := (by decide +kernel : ∀ k, k < 147 → kd k = 20 → kd (k + 14) = 22 ∧ ln (k + 14) = 26) k (kd_lt h (by decide)) h
theorem ch_20_20 {k : Nat} (h : kd k = 20) : kd (k + 15) = 21 ∧ ln (k + 15) = 135 := (by decide +kernel : ∀ k, k < 147 → kd k = 20 → kd (k + 15) = 21 ∧ ln (k + 15) = 135) k (kd_lt h (by decide)) h
theorem ch_20_22 {k : Nat} (h : kd k = 20) : kd (k + 16) = 21 ∧ ln (k + 16) = 270 := (by decide +kernel : ∀ k, k < 147 → kd k = 20 → kd (k + 16) = 21 ∧ ln (k + 16) = 270) k (kd_lt h (by decide)) h
theorem ch_20_23 {k : Nat} (h : kd k = 20) : kd (k + 17) = 21 ∧ ln (k + 17) = 2 := (by decide +kernel : ∀ k, k < 147 → kd k = 20 → kd (k + 17) = 21 ∧ ln (k + 17) = 2) k (kd_lt h (by decide)) h
theorem ch_20_24 {k : Nat} (h : kd k = 20) : kd (k + 18) = 21 ∧ ln (k + 18) = 4 := (by decide +kernel : ∀ k, k < 147 → kd k = 20 → kd (k + 18) = 21 ∧ ln (k + 18) = 4) k (kd_lt h (by decide)) h
theorem ch_20_25 {k : Nat} (h : kd k = 20) : kd (k + 19) = 21 ∧ ln (k + 19) = 4 := (by decide +kernel : ∀ k, k < 147 → kd k = 20 → kd (k + 19) = 21 ∧ ln (k + 19) = 4) k (kd_lt h (by decide)) h
theorem ch_20_26 {k : Nat} (h : kd k = 20) : kd (k + 20) = 21 ∧ ln (k + 20) = 96 := (by decide +kernel : ∀ k, k < 147 → kd k = 20 → kd (k + 20) = 21 ∧ ln (k + 20) = 96) k (kd_lt h (by decide)) h
theorem ca_13 {k j : Nat} (h : kd k = 13) (hj : j < 9) : kd (k + 4 + 2 * j) = 2 ∧ ln (k + 4 + 2 * j) = 0 := (by decide +kernel : ∀ k, k < 147 → kd k = 13 → ∀ j, j < 9 → kd (k + 4 + 2 * j) = 2 ∧ ln (k + 4 + 2 * j) = 0) k (kd_lt h (by decide)) h j hj
theorem ca_14 {k j : Nat} (h : kd k = 14) (hj : j < 10) : kd (k + 21 + 2 * j) = 3 ∧ ln (k + 21 + 2 * j) = 0 := (by decide +kernel : ∀ k, k < 147 → kd k = 14 → ∀ j, j < 10 → kd (k + 21 + 2 * j) = 3 ∧ ln (k + 21 + 2 * j) = 0) k (kd_lt h (by decide)) h j hj
theorem ca_15 {k j : Nat} (h : kd k = 15) (hj : j < 4) : kd (k + 1 + 2 * j) = 3 ∧ ln (k + 1 + 2 * j) = 0 := (by decide +kernel : ∀ k, k < 147 → kd k = 15 → ∀ j, j < 4 → kd (k + 1 + 2 * j) = 3 ∧ ln (k + 1 + 2 * j) = 0) k (kd_lt h (by decide)) h j hj
theorem ca_16 {k j : Nat} (h : kd k = 16) (hj : j < 9) : kd (k + 1 + j) = 10 ∧ ln (k + 1 + j) = 10 := (by decide +kernel : ∀ k, k < 147 → kd k = 16 → ∀ j, j < 9 → kd (k + 1 + j) = 10 ∧ ln (k + 1 + j) = 10) k (kd_lt h (by decide)) h j hj
theorem ca_17 {k j : Nat} (h : kd k = 17) (hj : j < 4) : kd (k + 1 + 2 * j) = 7 ∧ ln (k + 1 + 2 * j) = 0 := (by decide +kernel : ∀ k, k < 147 → kd k = 17 → ∀ j, j < 4 → kd (k + 1 + 2 * j) = 7 ∧ ln (k + 1 + 2 * j) = 0) k (kd_lt h (by decide)) h j hj
theorem ks_c {k c : Nat} (h : kd k = c) (hc : c < 20) : k < 126 := by
  have h1 := kd_lt h (by omega)
  subst h
  exact (by decide +kernel : ∀ k, k < 147 → kd k < 20 → k < 126) k h1 hc
theorem ks_m {k c : Nat} (h : kd k = c) (hc : 20 ≤ c) (hc2 : c < 99) : 126 ≤ k ∧ k < 147 := by
  have h1 := kd_lt h hc2
  subst h
  exact (by decide +kernel : ∀ k, k < 147 → 20 ≤ kd k → 126 ≤ k ∧ k < 147) k h1 hc
theorem in_java_lang_Math : (.initialized "java/lang/Math" : Cond) ∈ UW := in_RJ9
theorem in_java_lang_System : (.initialized "java/lang/System" : Cond) ∈ UW := in_RJ10
/-- the parameters of a world: tables, array classes, whose it is, what stands ahead and behind, side, addresses -/
abbrev Gx : Type := va_G × (Nat → ClassId) × (Nat → Prop) × va_W × va_W × Bool × (Nat → Nat)
abbrev gD (G : Gx) : va_G := G.1
abbrev gC (G : Gx) : Nat → ClassId := G.2.1
abbrev gA (G : Gx) : Nat → Prop := G.2.2.1
abbrev gX (G : Gx) : va_W := G.2.2.2.1
abbrev gY (G : Gx) : va_W := G.2.2.2.2.1
abbrev gs (G : Gx) : Bool := G.2.2.2.2.2.1
def ad (G : Gx) : Nat → Nat := G.2.2.2.2.2.2
def glo (b : Bool) : Nat := if b = true then 126 else 0
def gnn (b : Bool) : Nat := if b = true then 21 else 126
def vw (b : Bool) (cid : Nat → ClassId) (a : Nat → Nat) (M : Mem) (L : MemL) : va_W := (List.range (gnn b)).map (fun j => (a (glo b + j), wcell cid a M L (glo b + j)))
def wsG (G : Gx) (M : Mem) (L : MemL) : va_W := gX G ++ (vw (gs G) (gC G) (ad G) M L ++ gY G)
def gpos (G : Gx) (k : Nat) : Nat := (gX G).length + (k - glo (gs G))
theorem wsG_get {G : Gx} {M : Mem} {L : MemL} {k : Nat} (h : glo (gs G) ≤ k ∧ k < glo (gs G) + gnn (gs G)) : (wsG G M L)[gpos G k]? = some (ad G k, wcell (gC G) (ad G) M L k) := by
  obtain ⟨h1, h2⟩ := h
  have hl : k - glo (gs G) < (vw (gs G) (gC G) (ad G) M L).length := by simp [vw]; omega
  show (gX G ++ (vw (gs G) (gC G) (ad G) M L ++ gY G))[(gX G).length + (k - glo (gs G))]? = _
  rw [List.getElem?_append_right (by omega), Nat.add_sub_cancel_left, List.getElem?_append_left hl]
  show ((List.range (gnn (gs G))).map (fun j => (ad G (glo (gs G) + j), wcell (gC G) (ad G) M L (glo (gs G) + j))))[k - glo (gs G)]? = _
  rw [List.getElem?_map, List.getElem?_range (by omega)]
  show some (ad G (glo (gs G) + (k - glo (gs G))), wcell (gC G) (ad G) M L (glo (gs G) + (k - glo (gs G)))) = _
  rw [show glo (gs G) + (k - glo (gs G)) = k by omega]
theorem wsG_set {G : Gx} {M M' : Mem} {L L' : MemL} {k : Nat} {e : va_E} (h : glo (gs G) ≤ k ∧ k < glo (gs G) + gnn (gs G)) (ho : ∀ j, j ≠ k → wcell (gC G) (ad G) M' L' j = wcell (gC G) (ad G) M L j) (he : wcell (gC G) (ad G) M' L' k = e) : (wsG G M L).set (gpos G k) (ad G k, e) = wsG G M' L' := by
  obtain ⟨h1, h2⟩ := h
  have hl : k - glo (gs G) < (vw (gs G) (gC G) (ad G) M L).length := by simp [vw]; omega
  show (gX G ++ (vw (gs G) (gC G) (ad G) M L ++ gY G)).set ((gX G).length + (k - glo (gs G))) (ad G k, e) = gX G ++ (vw (gs G) (gC G) (ad G) M' L' ++ gY G)
  rw [List.set_append_right _ _ (by omega), Nat.add_sub_cancel_left, List.set_append_left _ _ hl]
  congr 2
  apply List.ext_getElem?
  intro i
  rw [List.getElem?_set]
  by_cases hi : k - glo (gs G) = i
  · rw [if_pos hi, if_pos (by rw [hi] at hl; rw [hi]; exact hl)]
    subst hi
    show _ = ((List.range (gnn (gs G))).map (fun j => (ad G (glo (gs G) + j), wcell (gC G) (ad G) M' L' (glo (gs G) + j))))[k - glo (gs G)]?
    rw [List.getElem?_map, List.getElem?_range (by omega)]
    show _ = some (ad G (glo (gs G) + (k - glo (gs G))), wcell (gC G) (ad G) M' L' (glo (gs G) + (k - glo (gs G))))
    rw [show glo (gs G) + (k - glo (gs G)) = k by omega, he]
  · rw [if_neg hi]
    show ((List.range (gnn (gs G))).map (fun j => (ad G (glo (gs G) + j), wcell (gC G) (ad G) M L (glo (gs G) + j))))[i]? = ((List.range (gnn (gs G))).map (fun j => (ad G (glo (gs G) + j), wcell (gC G) (ad G) M' L' (glo (gs G) + j))))[i]?
    rw [List.getElem?_map, List.getElem?_map]
    by_cases hr : i < gnn (gs G)
    · rw [List.getElem?_range hr]
      show some (ad G (glo (gs G) + i), wcell (gC G) (ad G) M L (glo (gs G) + i)) = some (ad G (glo (gs G) + i), wcell (gC G) (ad G) M' L' (glo (gs G) + i))
      rw [ho (glo (gs G) + i) (by omega)]
    · rw [List.getElem?_eq_none (by simpa using hr)]
      rfl
def up (M : Mem) (k j : Nat) (v : Int32) : Mem := fun a b => if a = k then (if b = j then v else M a b) else M a b
def upL (L : MemL) (k j : Nat) (v : Int64) : MemL := fun a b => if a = k then (if b = j then v else L a b) else L a b
/-- a whole row of a cell -/
def upR (M : Mem) (k : Nat) (f : Nat → Int32) : Mem := fun a b => if a = k then f b else M a b
theorem up_eq {M M1 : Mem} {k j a : Nat} {v : Int32} (e : M1 = up M k j v) (h : a ≠ k) : M1 a = M a := by
  rw [e]; funext b; simp [up, h]
theorem wcell_eq {cid : Nat → ClassId} {a : Nat → Nat} {M M1 : Mem} {L L1 : MemL} {k : Nat} (h : M1 k = M k) (h2 : L1 k = L k) : wcell cid a M1 L1 k = wcell cid a M L k := by
  unfold wcell wcellK
  rw [h, h2]
theorem up_oth {cid : Nat → ClassId} {a : Nat → Nat} {M M1 : Mem} {L : MemL} {k j : Nat} {v : Int32} (e : M1 = up M k j v) : ∀ q, q ≠ k → wcell cid a M1 L q = wcell cid a M L q := fun q hq => wcell_eq (up_eq e hq) rfl
theorem upL_oth {cid : Nat → ClassId} {a : Nat → Nat} {M : Mem} {L L1 : MemL} {k j : Nat} {v : Int64} (e : L1 = upL L k j v) : ∀ q, q ≠ k → wcell cid a M L1 q = wcell cid a M L q := fun q hq => wcell_eq rfl (by rw [e]; funext b; simp [upL, hq])
theorem upR_oth {cid : Nat → ClassId} {a : Nat → Nat} {M M1 : Mem} {L : MemL} {k : Nat} {f : Nat → Int32} (e : M1 = upR M k f) : ∀ q, q ≠ k → wcell cid a M1 L q = wcell cid a M L q := fun q hq => wcell_eq (by rw [e]; funext b; simp [upR, hq]) rfl
theorem up_row {M M1 : Mem} {k j : Nat} {v : Int32} (e : M1 = up M k j v) : M1 k = upd (M k) j v := by
  rw [e]; funext b; simp [up, upd]
theorem upR_row {M M1 : Mem} {k : Nat} {f : Nat → Int32} (e : M1 = upR M k f) : M1 k = f := by
  rw [e]; funext b; simp [upR]
theorem upL_row {L L1 : MemL} {k j : Nat} {v : Int64} (e : L1 = upL L k j v) : L1 k = vp_updL (L k) j v := by
  rw [e]; funext b; simp [upL, vp_updL]
/-! what a pure text is made of -/
def inb (i : Int32) (n : Nat) : Bool := decide (¬ (i < 0 ∨ n ≤ i.toNatClampNeg))
theorem inb_vp {i : Int32} {n : Nat} (h : inb i n = true) : vp_in i n := (of_decide_eq_true h : ¬ (i < 0 ∨ n ≤ i.toNatClampNeg))
theorem inb_lt {i : Int32} {n : Nat} (h : inb i n = true) : i.toNatClampNeg < n := Nat.not_le.mp fun q => inb_vp h (Or.inr q)
def gd {α : Type} (b : Bool) (K : Option α) : Option α := match b with
  | true => K
  | false => none
theorem gd_e {α : Type} {b : Bool} {K : Option α} {z : α} (h : gd b K = some z) : b = true ∧ K = some z := by
  cases b with
  | true => exact ⟨rfl, h⟩
  | false => cases h
theorem bd_e {α β : Type} {x : Option α} {K : α → Option β} {z : β} (h : x.bind K = some z) : ∃ a, x = some a ∧ K a = some z := by
  cases x with
  | none => cases h
  | some a => exact ⟨a, rfl, h⟩
def lt {α : Type} {β : Type} (x : α) (K : α → β) : β := K x
theorem lt_e {α β : Type} {x : α} {K : α → Option β} {z : β} (h : lt x K = some z) : ∃ y, y = x ∧ K y = some z := ⟨x, rfl, h⟩
theorem it_p {α : Type} {c : Prop} {i : Decidable c} {a b : Option α} {z : α} (hc : c) (h : @ite (Option α) c i a b = some z) : a = some z := by rw [if_pos hc] at h; exact h
theorem it_n {α : Type} {c : Prop} {i : Decidable c} {a b : Option α} {z : α} (hc : ¬ c) (h : @ite (Option α) c i a b = some z) : b = some z := by rw [if_neg hc] at h; exact h
def isZ (v : Int32) : Bool := decide (v = 0 ∨ v = 1)
theorem isZ_e {v : Int32} (h : isZ v = true) : v = 0 ∨ v = 1 := of_decide_eq_true h
/-! statics -/
def v26 : Nat → Int32 := fun j => [23530, 15083, 25166, 15211, 29391, 4815, 27470, 23533, 29847, 11044, 23277, 31305, 23549, 23547, 11114, 5099, 26474, 22379, 14478, 9367, 27501, 11117, 24557, 23213, 9389, 29351].getD j 0
def vHi : Nat → Int32 := fun j => [5, 8, 7, 9].getD j 0
def vFs : Nat → Int32 := fun j => [2, 2, 3, 1].getD j 0
def St1 (C n : String) (N : Nat) (f : Nat → Int32) (A : Nat → Prop) (U : State) (H : Heap) : Prop := ∃ t : Nat, va_Z C n "[I" (.ref t) A U H ∧ va_T .int t N (fun j => .int (f j)) A U H
theorem St1.moved {C n : String} {N : Nat} {f : Nat → Int32} {A : Nat → Prop} {u U : State} {H H1 : Heap} (hvm : u.vm.Alike U.vm) (hq : ∀ a : Nat, a < H.size → ¬ A a → H1[a]? = H[a]?) (h : St1 C n N f A u H) : St1 C n N f A U H1 := by
  obtain ⟨t, h1, h2⟩ := h
  exact ⟨t, (h1.kept hq).moved hvm, (h2.kept hq).moved hvm⟩
def Tb (A : Nat → Prop) (U : State) (H : Heap) : Prop := St1 "MownWords" "SHAPES" 26 v26 A U H ∧ St1 "MownWords" "HIGHEST_SETTINGS" 4 vHi A U H ∧ St1 "MownWords" "FIRST_SETTINGS" 4 vFs A U H ∧ Nw U
theorem Tb.moved {A : Nat → Prop} {u U : State} {H H1 : Heap} (hW : u.WarmedH U.vm) (hq : ∀ a : Nat, a < H.size → ¬ A a → H1[a]? = H[a]?) (h : Tb A u H) : Tb A U H1 := ⟨h.1.moved hW.alike hq, h.2.1.moved hW.alike hq, h.2.2.1.moved hW.alike hq, h.2.2.2.warm hW⟩
/-! what holds all through a method's body, and what changes -/
def Sx (G : Gx) (sd : Bool) (p : Program) (s : State) (m : MethodId) (args : Array Value) (meth : Method) (c : Code) (cc : ByteArray) (nL : Nat) (own : String) : Prop :=
  p.tables.exec = Jvm.exec ∧ c.code = cc ∧ c.maxLocals = nL ∧ s.vm.findClass own = some m.cls ∧ (∀ w ∈ UW, w.before args s = true) ∧ meth.locks = false ∧ va_K (gD G) vwCl (tysL (gC G)) s ∧ Tb (gA G) s s.heap ∧ (∀ M L, va_D (gA G) (wsG G M L)) ∧ gs G = sd ∧ ∀ q : Nat, s.heap.size ≤ q → gA G q
def Dy (G : Gx) (s : State) (M : Mem) (L : MemL) (H : Heap) (locs : List Loc) : Prop := va_P (gD G) vwCl (wsG G M L) H ∧ va_S (gA G) s.heap H locs
def PreG (G : Gx) (sd : Bool) (M : Mem) (L : MemL) (U : State) : Prop := va_P (gD G) vwCl (wsG G M L) U.heap ∧ va_K (gD G) vwCl (tysL (gC G)) U ∧ Tb (gA G) U U.heap ∧ (∀ M L, va_D (gA G) (wsG G M L)) ∧ gs G = sd ∧ ∀ q : Nat, U.heap.size ≤ q → gA G q
def PoG (G : Gx) (M : Mem) (L : MemL) (t : State) : Prop := va_P (gD G) vwCl (wsG G M L) t.heap
abbrev Qi (G : Gx) (z : Int32) (M : Mem) (L : MemL) : Array Value → State → Outcome → State → Prop := va_Qi (fun (r : Int32) (_ : Unit) => r = z) (fun _ t => PoG G M L t) (gA G)
abbrev Ql (G : Gx) (z : Int64) (M : Mem) (L : MemL) : Array Value → State → Outcome → State → Prop := va_Ql (fun (r : Int64) (_ : Unit) => r = z) (fun _ t => PoG G M L t) (gA G)
abbrev Qv (G : Gx) (M : Mem) (L : MemL) : Array Value → State → Outcome → State → Prop := va_Qv (fun (_ : Unit) => True) (fun _ t => PoG G M L t) (gA G)
section RW
variable {p : Program} {l : Launch} {e : Env} {R : Room} {s : State} {m : MethodId} {args : Array Value} {below : List Frame} {meth : Method} {c : Code} {H : Heap} {locs : List Loc} {cells slots : Nat} {Q : State → Prop}
variable {cc : ByteArray} {nL : Nat} {own : String} {pc : Nat} {ls : Array Slot} {rest : List Value} {G : Gx} {sd : Bool} {M : Mem} {L : MemL}
theorem ksdC (S : Sx G false p s m args meth c cc nL own) {k cde : Nat} (hk : kd k = cde) (hc : cde < 20 := by decide) : glo (gs G) ≤ k ∧ k < glo (gs G) + gnn (gs G) := by
  rw [S.2.2.2.2.2.2.2.2.2.1]
  have := ks_c hk hc
  exact ⟨Nat.zero_le _, by simpa [glo, gnn] using this⟩
theorem ksdM (S : Sx G true p s m args meth c cc nL own) {k cde : Nat} (hk : kd k = cde) (hc : 20 ≤ cde := by decide) (hc2 : cde < 99 := by decide) : glo (gs G) ≤ k ∧ k < glo (gs G) + gnn (gs G) := by
  rw [S.2.2.2.2.2.2.2.2.2.1]
  have := ks_m hk hc hc2
  exact ⟨by simpa [glo, gnn] using this.1, by simpa [glo, gnn] using this.2⟩
theorem Sx.uw (S : Sx G sd p s m args meth c cc nL own) {w : Cond} (h : w ∈ UW) : w.before args s = true := S.2.2.2.2.1 w h
theorem r_get (S : Sx G sd p s m args meth c cc nL own) (d : Dy G s M L H locs) {k ci f idx N : Nat} {T : u_T} {C : String} {fs : List Value} {v : Value} (hk : glo (gs G) ≤ k ∧ k < glo (gs G) + gnn (gs G)) (hw : wcell (gC G) (ad G) M L k = .inr (ci, fs)) (hc : vwCl[ci]? = some (C, T, N)) (hin : ∀ w ∈ u_ws C T N, w ∈ UW) (hf : f < N) (hl : (.fieldLink own idx (T f).1 (T f).2.1 (T f).2.2.1 : Cond) ∈ UW) (hv : fs[f]? = some v) (hd : decode cc pc = .ok (.getfield idx, 3)) (kk : W p l e R s m args below meth c H locs cells slots Q (F0 m (pc + 3) ls (v :: rest))) : W p l e R s m args below meth c H locs cells slots Q (F0 m pc ls (.ref (ad G k) :: rest)) := by
  have hq := wsG_get (M := M) (L := L) hk
  rw [hw] at hq
  exact va_get S.1 S.2.1 S.2.2.2.2.1 hin S.2.2.2.1 S.2.2.2.2.2.2.1 d.1 (gpos G k) hq hc f hf (S.uw hl) (fun _ h => h) hv hd kk
theorem r_put (S : Sx G sd p s m args meth c cc nL own) (d : Dy G s M L H locs) {k ci f idx N : Nat} {T : u_T} {ty0 : Nat → FieldType} {ty : FieldType} {C : String} {fs : List Value} {v : Value} {M1 : Mem} (hk : glo (gs G) ≤ k ∧ k < glo (gs G) + gnn (gs G)) (hw : wcell (gC G) (ad G) M L k = .inr (ci, fs)) (hc : vwCl[ci]? = some (C, T, N)) (hin : ∀ w ∈ u_ws C T N, w ∈ UW) (hty : ∀ k, k < N → parseFieldDescriptor (T k).2.2.1 = some (ty0 k)) (hnm : ∀ a, a < N → ∀ b, b < N → a ≠ b → (T a).2.1 ≠ (T b).2.1) (hf : f < N) (hl : (.fieldLink own idx (T f).1 (T f).2.1 (T f).2.2.1 : Cond) ∈ UW) (hfin : (T f).2.2.2 = false) (hpd : parseFieldDescriptor (T f).2.2.1 = some ty) (hn : narrow ty v = v) (hfit : fits ty v = true) (hlen : f < fs.length) (hd : decode cc pc = .ok (.putfield idx, 3))
    (ho : ∀ j, j ≠ k → wcell (gC G) (ad G) M1 L j = wcell (gC G) (ad G) M L j) (he : wcell (gC G) (ad G) M1 L k = .inr (ci, fs.set f v)) (kk : ∀ (H1 : Heap) (locs1 : List Loc), Dy G s M1 L H1 locs1 → W p l e R s m args below meth c H1 locs1 cells slots Q (F0 m (pc + 3) ls rest)) : W p l e R s m args below meth c H locs cells slots Q (F0 m pc ls (v :: .ref (ad G k) :: rest)) := by
  have hq := wsG_get (M := M) (L := L) hk
  rw [hw] at hq
  refine va_put S.1 S.2.1 S.2.2.2.2.1 hin ty0 hty hnm S.2.2.2.1 S.2.2.2.2.2.2.1 d.1 (S.2.2.2.2.2.2.2.2.1 M L) d.2 (gpos G k) hq hc f hf (S.uw hl) (fun _ h => h) hfin hpd hn hfit hlen hd (fun H1 locs1 hP _ hS => ?_)
  rw [wsG_set hk ho he] at hP
  exact kk H1 locs1 ⟨hP, hS⟩
theorem r_iald (S : Sx G sd p s m args meth c cc nL own) (d : Dy G s M L H locs) {k n : Nat} {i : Int32} (hk : glo (gs G) ≤ k ∧ k < glo (gs G) + gnn (gs G)) (hw : wcell (gC G) (ad G) M L k = .inl (gC G 0, ln k, .inl (M k))) (hn : ln k = n) (hin : inb i n = true) (hd : decode cc pc = .ok (.iaload, 1)) (kk : W p l e R s m args below meth c H locs cells slots Q (F0 m (pc + 1) ls (.int (M k i.toNatClampNeg) :: rest))) : W p l e R s m args below meth c H locs cells slots Q (F0 m pc ls (.int i :: .ref (ad G k) :: rest)) := by
  have hq := wsG_get (M := M) (L := L) hk
  rw [hw] at hq
  subst hn
  exact va_iald S.1 S.2.1 S.2.2.2.2.2.2.1 d.1 (gpos G k) 0 hq rfl (inb_vp hin) hd kk
theorem r_bald (S : Sx G sd p s m args meth c cc nL own) (d : Dy G s M L H locs) {k n : Nat} {i : Int32} (hk : glo (gs G) ≤ k ∧ k < glo (gs G) + gnn (gs G)) (hw : wcell (gC G) (ad G) M L k = .inl (gC G 1, ln k, .inl (M k))) (hn : ln k = n) (hin : inb i n = true) (hd : decode cc pc = .ok (.baload, 1)) (kk : W p l e R s m args below meth c H locs cells slots Q (F0 m (pc + 1) ls (.int (M k i.toNatClampNeg) :: rest))) : W p l e R s m args below meth c H locs cells slots Q (F0 m pc ls (.int i :: .ref (ad G k) :: rest)) := by
  have hq := wsG_get (M := M) (L := L) hk
  rw [hw] at hq
  subst hn
  exact va_bald S.1 S.2.1 S.2.2.2.2.2.2.1 d.1 (gpos G k) 1 hq rfl (inb_vp hin) hd kk
theorem r_lald (S : Sx G sd p s m args meth c cc nL own) (d : Dy G s M L H locs) {k n : Nat} {i : Int32} (hk : glo (gs G) ≤ k ∧ k < glo (gs G) + gnn (gs G)) (hw : wcell (gC G) (ad G) M L k = .inl (gC G 2, ln k, .inr (.inl (L k)))) (hn : ln k = n) (hin : inb i n = true) (hd : decode cc pc = .ok (.laload, 1)) (kk : W p l e R s m args below meth c H locs cells slots Q (F0 m (pc + 1) ls (.long (L k i.toNatClampNeg) :: rest))) : W p l e R s m args below meth c H locs cells slots Q (F0 m pc ls (.int i :: .ref (ad G k) :: rest)) := by
  have hq := wsG_get (M := M) (L := L) hk
  rw [hw] at hq
  subst hn
  exact va_lald S.1 S.2.1 S.2.2.2.2.2.2.1 d.1 (gpos G k) 2 hq rfl (inb_vp hin) hd kk
theorem r_iast (S : Sx G sd p s m args meth c cc nL own) (d : Dy G s M L H locs) {k n : Nat} {i x : Int32} {M1 : Mem} (eM : M1 = up M k i.toNatClampNeg x) (hk : glo (gs G) ≤ k ∧ k < glo (gs G) + gnn (gs G)) (hw : ∀ M : Mem, wcell (gC G) (ad G) M L k = .inl (gC G 0, ln k, .inl (M k))) (hn : ln k = n) (hin : inb i n = true) (hd : decode cc pc = .ok (.iastore, 1)) (kk : ∀ (H1 : Heap) (locs1 : List Loc), Dy G s M1 L H1 locs1 → W p l e R s m args below meth c H1 locs1 cells slots Q (F0 m (pc + 1) ls rest)) : W p l e R s m args below meth c H locs cells slots Q (F0 m pc ls (.int x :: .int i :: .ref (ad G k) :: rest)) := by
  have hq := wsG_get (M := M) (L := L) hk
  rw [hw] at hq
  subst hn
  refine va_iast S.1 S.2.1 S.2.2.2.2.2.2.1 d.1 (S.2.2.2.2.2.2.2.2.1 M L) d.2 (gpos G k) 0 hq rfl (inb_vp hin) hd (fun H1 locs1 hP _ hS => ?_)
  rw [wsG_set (M' := M1) (L' := L) hk (up_oth eM) (by rw [hw, up_row eM])] at hP
  exact kk H1 locs1 ⟨hP, hS⟩
theorem r_bast (S : Sx G sd p s m args meth c cc nL own) (d : Dy G s M L H locs) {k n : Nat} {i x : Int32} {M1 : Mem} (eM : M1 = up M k i.toNatClampNeg x.toInt8.toInt32) (hk : glo (gs G) ≤ k ∧ k < glo (gs G) + gnn (gs G)) (hw : ∀ M : Mem, wcell (gC G) (ad G) M L k = .inl (gC G 1, ln k, .inl (M k))) (hn : ln k = n) (hin : inb i n = true) (hd : decode cc pc = .ok (.bastore, 1)) (kk : ∀ (H1 : Heap) (locs1 : List Loc), Dy G s M1 L H1 locs1 → W p l e R s m args below meth c H1 locs1 cells slots Q (F0 m (pc + 1) ls rest)) : W p l e R s m args below meth c H locs cells slots Q (F0 m pc ls (.int x :: .int i :: .ref (ad G k) :: rest)) := by
  have hq := wsG_get (M := M) (L := L) hk
  rw [hw] at hq
  subst hn
  refine va_bast S.1 S.2.1 S.2.2.2.2.2.2.1 d.1 (S.2.2.2.2.2.2.2.2.1 M L) d.2 (gpos G k) 1 hq rfl (inb_vp hin) hd (fun H1 locs1 hP _ hS => ?_)
  rw [vp_nar_byte, wsG_set (M' := M1) (L' := L) hk (up_oth eM) (by rw [hw, up_row eM])] at hP
  exact kk H1 locs1 ⟨hP, hS⟩
theorem r_last (S : Sx G sd p s m args meth c cc nL own) (d : Dy G s M L H locs) {k n : Nat} {i : Int32} {x : Int64} {L1 : MemL} (eM : L1 = upL L k i.toNatClampNeg x) (hk : glo (gs G) ≤ k ∧ k < glo (gs G) + gnn (gs G)) (hw : ∀ L : MemL, wcell (gC G) (ad G) M L k = .inl (gC G 2, ln k, .inr (.inl (L k)))) (hn : ln k = n) (hin : inb i n = true) (hd : decode cc pc = .ok (.lastore, 1)) (kk : ∀ (H1 : Heap) (locs1 : List Loc), Dy G s M L1 H1 locs1 → W p l e R s m args below meth c H1 locs1 cells slots Q (F0 m (pc + 1) ls rest)) : W p l e R s m args below meth c H locs cells slots Q (F0 m pc ls (.long x :: .int i :: .ref (ad G k) :: rest)) := by
  have hq := wsG_get (M := M) (L := L) hk
  rw [hw] at hq
  subst hn
  refine va_last S.1 S.2.1 S.2.2.2.2.2.2.1 d.1 (S.2.2.2.2.2.2.2.2.1 M L) d.2 (gpos G k) 2 hq rfl (inb_vp hin) hd (fun H1 locs1 hP _ hS => ?_)
  rw [wsG_set (M' := M) (L' := L1) hk (upL_oth eM) (by rw [hw, upL_row eM])] at hP
  exact kk H1 locs1 ⟨hP, hS⟩
theorem r_aald (S : Sx G sd p s m args meth c cc nL own) (d : Dy G s M L H locs) {k n t0 b : Nat} {i : Int32} {ty : FieldType} {f : Nat → Option Nat} (hk : glo (gs G) ≤ k ∧ k < glo (gs G) + gnn (gs G)) (hw : wcell (gC G) (ad G) M L k = .inl (gC G t0, n, .inr (.inr (.inr (.inr f))))) (ht : (tysL (gC G))[t0]? = some (gC G t0, ty)) (hr : ty.isReference = true) (hin : inb i n = true) (hb : f i.toNatClampNeg = some b) (hd : decode cc pc = .ok (.aaload, 1)) (kk : W p l e R s m args below meth c H locs cells slots Q (F0 m (pc + 1) ls (.ref b :: rest))) : W p l e R s m args below meth c H locs cells slots Q (F0 m pc ls (.int i :: .ref (ad G k) :: rest)) := by
  have hq := wsG_get (M := M) (L := L) hk
  rw [hw] at hq
  have hlt := inb_lt hin
  exact W.aald (v := .ref b) (ty := ty) S.1 S.2.1 (d.1 (gpos G k) _ hq) ((S.2.2.2.2.2.2.1.2 t0 _ ht).1 n (fun j => va_rf (f j))) hr (fun q => by cases q) (by show ¬ (i < 0 ∨ (arrV _ _ _).slots.size ≤ _); rw [arrV_size]; exact inb_vp hin) (by show (arrV _ _ _).slots[_]? = _; rw [arrV_read _ _ hlt, hb]; rfl) rfl rfl hd kk
theorem r_alen (S : Sx G sd p s m args meth c cc nL own) (d : Dy G s M L H locs) {k t0 : Nat} {x : vp_A} {v : Int32} {ty : FieldType} (hk : glo (gs G) ≤ k ∧ k < glo (gs G) + gnn (gs G)) (hw : wcell (gC G) (ad G) M L k = .inl (gC G t0, x)) (ht : (tysL (gC G))[t0]? = some (gC G t0, ty)) (hv : Int32.ofNat x.1 = v) (hd : decode cc pc = .ok (.arraylength, 1)) (kk : W p l e R s m args below meth c H locs cells slots Q (F0 m (pc + 1) ls (.int v :: rest))) : W p l e R s m args below meth c H locs cells slots Q (F0 m pc ls (.ref (ad G k) :: rest)) := by
  have hq := wsG_get (M := M) (L := L) hk
  rw [hw] at hq
  exact va_alen S.1 S.2.1 S.2.2.2.2.2.2.1 d.1 (gpos G k) t0 hq ht hv hd kk
/-- a static array of ints read at a place: getstatic apart, then the place -/
theorem r_gst (S : Sx G sd p s m args meth c cc nL own) (d : Dy G s M L H locs) {n : String} {N : Nat} {f : Nat → Int32} {idx : Nat} (hz : St1 "MownWords" n N f (gA G) s s.heap) (hl : (Cond.fieldLink own idx "MownWords" n "[I").before args s = true ∨ ∃ h, (Cond.fieldLinkNest own idx "MownWords" n "[I" h).before args s = true) (hd : decode cc pc = .ok (.getstatic idx, 3))
    (kk : ∀ t : Nat, va_T .int t N (fun j => .int (f j)) (gA G) s s.heap → W p l e R s m args below meth c H locs cells slots Q (F0 m (pc + 3) ls (.ref t :: rest))) : W p l e R s m args below meth c H locs cells slots Q (F0 m pc ls rest) := by
  obtain ⟨t, h1, h2⟩ := hz
  rcases hl with hl | ⟨h, hl⟩
  · exact va_gets S.1 S.2.1 h1 d.2 S.2.2.2.1 hl (fun _ h => h) hd (kk t h2)
  · exact va_getsN S.1 S.2.1 h1 d.2 S.2.2.2.1 hl (fun _ h => h) hd (kk t h2)
theorem r_tald (S : Sx G sd p s m args meth c cc nL own) (d : Dy G s M L H locs) {t N : Nat} {f : Nat → Int32} {i : Int32} (hT : va_T .int t N (fun j => .int (f j)) (gA G) s s.heap) (hin : inb i N = true) (hd : decode cc pc = .ok (.iaload, 1)) (kk : W p l e R s m args below meth c H locs cells slots Q (F0 m (pc + 1) ls (.int (f i.toNatClampNeg) :: rest))) : W p l e R s m args below meth c H locs cells slots Q (F0 m pc ls (.int i :: .ref t :: rest)) :=
  va_ti S.1 S.2.1 hT d.2 (inb_vp hin) rfl hd kk
theorem r_tlen (S : Sx G sd p s m args meth c cc nL own) (d : Dy G s M L H locs) {t N : Nat} {f : Nat → Int32} {v : Int32} (hT : va_T .int t N (fun j => .int (f j)) (gA G) s s.heap) (hv : Int32.ofNat N = v) (hd : decode cc pc = .ok (.arraylength, 1)) (kk : W p l e R s m args below meth c H locs cells slots Q (F0 m (pc + 1) ls (.int v :: rest))) : W p l e R s m args below meth c H locs cells slots Q (F0 m pc ls (.ref t :: rest)) :=
  va_tlen S.1 S.2.1 hT d.2 hv hd kk
/-! calls -/
theorem PreG.blind {As : List Value} : FrameBlind (va_Pc As (PreG G sd M L)) := fun a U g mk q => by
  obtain ⟨q0, h1, h2, h3, h4, h5⟩ := q
  exact ⟨q0, h1, va_K.moved (u := U) (U := U.calling g mk a) (Vm.Alike.refl U.vm) h2, ⟨h3.1.moved (Vm.Alike.refl U.vm) (fun _ _ _ => rfl), h3.2.1.moved (Vm.Alike.refl U.vm) (fun _ _ _ => rfl), h3.2.2.1.moved (Vm.Alike.refl U.vm) (fun _ _ _ => rfl), h3.2.2.2⟩, h4, h5⟩
theorem pre_of (S : Sx G sd p s m args meth c cc nL own) (d : Dy G s M L H locs) {U : State} (hU : U.heap = H) (hW : s.WarmedH U.vm) : PreG G sd M L U := by
  refine ⟨by rw [hU]; exact d.1, va_K.moved hW.alike S.2.2.2.2.2.2.1, ?_, S.2.2.2.2.2.2.2.2.1, S.2.2.2.2.2.2.2.2.2.1, fun q hq => S.2.2.2.2.2.2.2.2.2.2 q (Nat.le_trans d.2.1 (by rw [hU] at hq; exact hq))⟩
  rw [hU]
  exact S.2.2.2.2.2.2.2.1.moved hW d.2.2.1
theorem gV {own C : String} {idx : Nat} {y : MethodName} {b : ByteArray} {n : Nat} {rt : Option FieldType} (h1 : (.methodLink own idx y : Cond) ∈ UW) (h2 : (.instanceMethod y : Cond) ∈ UW) (h3 : (.selects C y y : Cond) ∈ UW) (h4 : (.initialized C : Cond) ∈ UW) (h5 : (.code y b n rt : Cond) ∈ UW) : GoodIn UW (wsV own idx C y (.code y b n rt :: UW)) := by
  intro w hw
  apply UW_good
  rcases List.mem_append.mp hw with hw | hw
  · simp only [List.mem_cons, List.not_mem_nil, or_false] at hw
    rcases hw with rfl | rfl | rfl | rfl <;> assumption
  · rcases List.mem_cons.mp hw with rfl | hw <;> assumption
theorem gSs {own : String} {idx : Nat} {y : MethodName} {b : ByteArray} {n : Nat} {rt : Option FieldType} (h1 : (.methodLink own idx y : Cond) ∈ UW) (h2 : (.static y : Cond) ∈ UW) (h4 : (.initialized y.cls : Cond) ∈ UW) (h5 : (.code y b n rt : Cond) ∈ UW) : GoodIn UW (va_wsS own idx y (.code y b n rt :: UW)) := by
  intro w hw
  apply UW_good
  rcases List.mem_append.mp hw with hw | hw
  · simp only [List.mem_cons, List.not_mem_nil, or_false] at hw
    rcases hw with rfl | rfl | rfl <;> assumption
  · rcases List.mem_cons.mp hw with rfl | hw <;> assumption
theorem gSn {y : MethodName} {b : ByteArray} {n : Nat} {rt : Option FieldType} (h5 : (.code y b n rt : Cond) ∈ UW) : GoodIn UW (.code y b n rt :: UW) := by
  intro w hw
  apply UW_good
  rcases List.mem_cons.mp hw with rfl | hw <;> assumption
variable {y : MethodName} {bytes : ByteArray} {maxL n idx : Nat} {ret : Option FieldType} {rm : Room} {Qc : Array Value → State → Outcome → State → Prop} {As : List Value}
/-- an instance method of the world called -/
theorem r_cV (S : Sx G sd p s m args meth c cc nL own) (d : Dy G s M L H locs) {k ci N : Nat} {C : String} {T : u_T} {fs : List Value} (hM : Met l y (.code y bytes maxL ret :: UW) rm (va_Pc (.ref (ad G k) :: As) (PreG G sd M L)) Qc 0 0 (gA G)) (hk : glo (gs G) ≤ k ∧ k < glo (gs G) + gnn (gs G)) (hw : wcell (gC G) (ad G) M L k = .inr (ci, fs)) (hc : vwCl[ci]? = some (C, T, N))
    (h1 : (.methodLink own idx y : Cond) ∈ UW) (h2 : (.instanceMethod y : Cond) ∈ UW) (h3 : (.selects C y y : Cond) ∈ UW) (h4 : (.initialized C : Cond) ∈ UW) (h5 : (.code y bytes maxL ret : Cond) ∈ UW) (hy : y.cls = C ∧ y.cls ≠ "java/lang/invoke/MethodHandle" ∧ y.cls ≠ "java/lang/invoke/VarHandle" ∧ (parseMethodDescriptor y.desc).map (fun d => d.parameters.length) = some n) (hrm : rm.cells = 0 ∧ rm.slots = 0) (hR : rm.frames + 1 ≤ R.frames ∧ 8 + (maxL + 11) + rm.locals ≤ R.locals)
    (hn : As.length = n) {lv : List (Nat × Value)} (hls : lv_has ls nL lv) {st : List Value} (hst : st = As.reverse ++ .ref (ad G k) :: rest) (hsum : (rest.map fun v => v.category).sum ≤ 8) (hd : decode cc pc = .ok (.invokevirtual idx, 3)) (hcs : cells ≤ R.cells ∧ slots ≤ R.slots) : va_Run p l e R s m args below meth c H locs cells slots 0 0 (F0 m pc ls st) rest (Qc (Value.ref (ad G k) :: As).toArray) (gA G) := by
  have hq := wsG_get (M := M) (L := L) hk
  rw [hw] at hq
  exact va_runV (As := As) (rest := rest) ⟨S.1, S.2.1, S.2.2.1, S.2.2.2.1, S.2.2.2.2.1⟩ hM (cwV n S.2.2.2.2.1 (gV h1 h2 h3 h4 h5) rfl hrm.1 hrm.2 hy hR) ⟨PreG.blind, va_recv S.2.2.2.2.2.2.1 d.1 hc hq, fun U hU hW => ⟨rfl, pre_of S d hU hW⟩⟩ rfl hn hls.1 hst (lv_room hsum) hd hcs
theorem r_cS (S : Sx G sd p s m args meth c cc nL own) (d : Dy G s M L H locs) (hM : Met l y (.code y bytes maxL ret :: UW) rm (va_Pc As (PreG G sd M L)) Qc 0 0 (gA G))
    (h1 : (.methodLink own idx y : Cond) ∈ UW) (h2 : (.static y : Cond) ∈ UW) (h4 : (.initialized y.cls : Cond) ∈ UW) (h5 : (.code y bytes maxL ret : Cond) ∈ UW) (hy : y.cls ≠ "java/lang/invoke/MethodHandle" ∧ y.cls ≠ "java/lang/invoke/VarHandle" ∧ (parseMethodDescriptor y.desc).map (fun d => d.parameters.length) = some n) (hrm : rm.cells = 0 ∧ rm.slots = 0) (hR : rm.frames + 1 ≤ R.frames ∧ 8 + (maxL + 11) + rm.locals ≤ R.locals)
    (hn : As.length = n) {lv : List (Nat × Value)} (hls : lv_has ls nL lv) {st : List Value} (hst : st = As.reverse ++ rest) (hsum : (rest.map fun v => v.category).sum ≤ 8) (hd : decode cc pc = .ok (.invokestatic idx, 3)) (hcs : cells ≤ R.cells ∧ slots ≤ R.slots) : va_Run p l e R s m args below meth c H locs cells slots 0 0 (F0 m pc ls st) rest (Qc As.toArray) (gA G) :=
  va_runS (As := As) (rest := rest) ⟨S.1, S.2.1, S.2.2.1, S.2.2.2.1, S.2.2.2.2.1⟩ hM (va_cwS n S.2.2.2.2.1 (gSs h1 h2 h4 h5) rfl hrm.1 hrm.2 hy hR) ⟨PreG.blind, fun U hU hW => ⟨rfl, pre_of S d hU hW⟩⟩ rfl hn hls.1 hst (lv_room hsum) hd hcs
/-- a private static method of a nest mate -/
theorem r_cSN {host : String} (S : Sx G sd p s m args meth c cc nL own) (d : Dy G s M L H locs) (hM : Met l y (.code y bytes maxL ret :: UW) rm (va_Pc As (PreG G sd M L)) Qc 0 0 (gA G))
    (h1 : va_Nw (.methodLinkNest own idx y host) s) (h2 : (.static y : Cond) ∈ UW) (h4 : (.initialized y.cls : Cond) ∈ UW) (h5 : (.code y bytes maxL ret : Cond) ∈ UW) (hy : y.cls ≠ "java/lang/invoke/MethodHandle" ∧ y.cls ≠ "java/lang/invoke/VarHandle" ∧ (parseMethodDescriptor y.desc).map (fun d => d.parameters.length) = some n) (hrm : rm.cells = 0 ∧ rm.slots = 0) (hR : rm.frames + 1 ≤ R.frames ∧ 8 + (maxL + 11) + rm.locals ≤ R.locals)
    (hn : As.length = n) {lv : List (Nat × Value)} (hls : lv_has ls nL lv) {st : List Value} (hst : st = As.reverse ++ rest) (hsum : (rest.map fun v => v.category).sum ≤ 8) (hd : decode cc pc = .ok (.invokestatic idx, 3)) (hcs : cells ≤ R.cells ∧ slots ≤ R.slots) : va_Run p l e R s m args below meth c H locs cells slots 0 0 (F0 m pc ls st) rest (Qc As.toArray) (gA G) :=
  va_runSN (As := As) (rest := rest) ⟨S.1, S.2.1, S.2.2.1, S.2.2.2.1, S.2.2.2.2.1⟩ hM ⟨va_cnB n S.2.2.2.2.1 (gSn h5) rfl hrm.1 hrm.2 h1 (S.uw h4) hy hR, S.uw h2, trivial⟩ ⟨PreG.blind, fun U hU hW => ⟨rfl, pre_of S d hU hW⟩⟩ rfl hn hls.1 hst (lv_room hsum) hd hcs
variable {a : Array Value} {st : List Value} {M1 : Mem} {L1 : MemL}
theorem r_ri {z : Int32} (d : Dy G s M L H locs) (hr : va_Run p l e R s m args below meth c H locs cells slots 0 0 (F0 m pc ls st) rest (Qi G z M1 L1 a) (gA G)) (kk : ∀ (H1 : Heap) (locs1 : List Loc), Dy G s M1 L1 H1 locs1 → W p l e R s m args below meth c H1 locs1 cells slots Q (F0 m (pc + 3) ls (.int z :: rest))) : W p l e R s m args below meth c H locs cells slots Q (F0 m pc ls st) :=
  va_calli hr d.2 (fun _ _ h => h) (fun _ h => h) (fun r u t H1 locs1 ht hvm hp hb _ _ hS => by subst hp; exact kk H1 locs1 ⟨by rw [← ht]; exact hb, hS⟩)
theorem r_rl {z : Int64} (d : Dy G s M L H locs) (hr : va_Run p l e R s m args below meth c H locs cells slots 0 0 (F0 m pc ls st) rest (Ql G z M1 L1 a) (gA G)) (kk : ∀ (H1 : Heap) (locs1 : List Loc), Dy G s M1 L1 H1 locs1 → W p l e R s m args below meth c H1 locs1 cells slots Q (F0 m (pc + 3) ls (.long z :: rest))) : W p l e R s m args below meth c H locs cells slots Q (F0 m pc ls st) :=
  va_calll hr d.2 (fun _ _ h => h) (fun _ h => h) (fun r u t H1 locs1 ht hvm hp hb _ _ hS => by subst hp; exact kk H1 locs1 ⟨by rw [← ht]; exact hb, hS⟩)
theorem r_rv (d : Dy G s M L H locs) (hr : va_Run p l e R s m args below meth c H locs cells slots 0 0 (F0 m pc ls st) rest (Qv G M1 L1 a) (gA G)) (kk : ∀ (H1 : Heap) (locs1 : List Loc), Dy G s M1 L1 H1 locs1 → W p l e R s m args below meth c H1 locs1 cells slots Q (F0 m (pc + 3) ls rest)) : W p l e R s m args below meth c H locs cells slots Q (F0 m pc ls st) :=
  va_callv hr d.2 (fun _ _ h => h) (fun _ h => h) (fun u t H1 locs1 ht hvm hp hb _ _ hS => kk H1 locs1 ⟨by rw [← ht]; exact hb, hS⟩)
theorem r_min (S : Sx G sd p s m args meth c cc nL own) {x z : Int32} {lv : List (Nat × Value)} (hls : lv_has ls nL lv) (h1 : (.methodLink own idx Lib.Math.min.name : Cond) ∈ UW) (hfr : 1 ≤ R.frames ∧ (rest.map fun v => v.category).sum + 13 ≤ R.locals) (hcs : cells ≤ R.cells ∧ slots ≤ R.slots) (hd : decode cc pc = .ok (.invokestatic idx, 3)) (kk : W p l e R s m args below meth c H locs cells slots Q (F0 m (pc + 3) ls (.int (if z < x then z else x) :: rest))) : W p l e R s m args below meth c H locs cells slots Q (F0 m pc ls (.int z :: .int x :: rest)) :=
  va_mmin S.1 S.2.1 (S.2.2.1.trans hls.1.symm) S.2.2.2.1 (S.uw h1) (S.uw sm_Lib_Math_min_name) (S.uw in_java_lang_Math) (S.uw co_Lib_Math_min_name) hfr.1 hfr.2 hcs.1 hcs.2 hd kk
theorem r_max (S : Sx G sd p s m args meth c cc nL own) {x z : Int32} {lv : List (Nat × Value)} (hls : lv_has ls nL lv) (h1 : (.methodLink own idx Lib.Math.max.name : Cond) ∈ UW) (hfr : 1 ≤ R.frames ∧ (rest.map fun v => v.category).sum + 13 ≤ R.locals) (hcs : cells ≤ R.cells ∧ slots ≤ R.slots) (hd : decode cc pc = .ok (.invokestatic idx, 3)) (kk : W p l e R s m args below meth c H locs cells slots Q (F0 m (pc + 3) ls (.int (if x < z then z else x) :: rest))) : W p l e R s m args below meth c H locs cells slots Q (F0 m pc ls (.int z :: .int x :: rest)) :=
  va_mmax S.1 S.2.1 (S.2.2.1.trans hls.1.symm) S.2.2.2.1 (S.uw h1) (S.uw sm_Lib_Math_max_name) (S.uw in_java_lang_Math) (S.uw co_Lib_Math_max_name) hfr.1 hfr.2 hcs.1 hcs.2 hd kk
/-- System.arraycopy between two int arrays of the world -/
theorem r_cpy (S : Sx G sd p s m args meth c cc nL own) (d : Dy G s M L H locs) {k0 k1 n0 n1 : Nat} {sp dp nn : Int32} {M1 : Mem} {lv : List (Nat × Value)} (hls : lv_has ls nL lv) (eM : M1 = upR M k1 (va_cpy (M k0) (M k1) sp.toNatClampNeg dp.toNatClampNeg nn.toNatClampNeg)) (hk0 : glo (gs G) ≤ k0 ∧ k0 < glo (gs G) + gnn (gs G)) (hk1 : glo (gs G) ≤ k1 ∧ k1 < glo (gs G) + gnn (gs G)) (hw0 : ∀ M : Mem, wcell (gC G) (ad G) M L k0 = .inl (gC G 0, ln k0, .inl (M k0))) (hw1 : ∀ M : Mem, wcell (gC G) (ad G) M L k1 = .inl (gC G 0, ln k1, .inl (M k1))) (hn0 : ln k0 = n0) (hn1 : ln k1 = n1)
    (hb : (decide (¬ sp < 0 ∧ ¬ dp < 0 ∧ ¬ nn < 0 ∧ sp.toNatClampNeg + nn.toNatClampNeg ≤ n0 ∧ dp.toNatClampNeg + nn.toNatClampNeg ≤ n1)) = true) (h1 : (.methodLink own idx arraycopyName : Cond) ∈ UW) (hfr : 1 ≤ R.frames ∧ (rest.map fun v => v.category).sum + (nativeFrameWords "java/lang/System" "arraycopy" 5 + 11) ≤ R.locals) (hd : decode cc pc = .ok (.invokestatic idx, 3))
    (kk : ∀ (H1 : Heap) (locs1 : List Loc), Dy G s M1 L H1 locs1 → W p l e R s m args below meth c H1 locs1 cells slots Q (F0 m (pc + 3) ls rest)) : W p l e R s m args below meth c H locs cells slots Q (F0 m pc ls (.int nn :: .int dp :: .ref (ad G k1) :: .int sp :: .ref (ad G k0) :: rest)) := by
  have hq0 := wsG_get (M := M) (L := L) hk0
  rw [hw0] at hq0
  have hq1 := wsG_get (M := M) (L := L) hk1
  rw [hw1] at hq1
  obtain ⟨b1, b2, b3, b4, b5⟩ := of_decide_eq_true hb
  subst hn0
  subst hn1
  refine va_copyi S.1 S.2.1 (S.2.2.1.trans hls.1.symm) S.2.2.2.1 (S.uw h1) (S.uw nm_arraycopyName) (S.uw sm_arraycopyName) (S.uw in_java_lang_System) S.2.2.2.2.2.2.1 d.1 (S.2.2.2.2.2.2.2.2.1 M L) d.2 (gpos G k0) (gpos G k1) 0 0 hq0 hq1 rfl rfl rfl b1 b2 b3 b4 b5 (fun i _ => rfl) hfr.1 hfr.2 hd (fun H1 locs1 hP _ hS => ?_)
  rw [wsG_set (M' := M1) (L' := L) hk1 (upR_oth eM) (by rw [hw1, upR_row eM])] at hP
  exact kk H1 locs1 ⟨hP, hS⟩
/-! ends -/
theorem r_iret {z v : Int32} {ty : FieldType} (S : Sx G sd p s m args meth c cc nL own) (d : Dy G s M L H locs) (hr : meth.sig.returnType = some ty) (hn : narrow ty (.int v) = .int v) (hz : v = z) (hd : decode cc pc = .ok (.ireturn, 1)) : W p l e R s m args below meth c H locs cells slots (MQ below (Qi G z M L) args s cells slots (gA G)) (F0 m pc ls [.int v]) :=
  W.zret S.1 S.2.1 hr hn (fun t ht hW => ⟨⟨v, (), rfl, hz, by show va_P _ _ _ _; rw [ht]; exact d.1⟩, d.2.F ht⟩) d.2.2.2 hd S.2.2.2.2.2.1
theorem r_lret {z v : Int64} (S : Sx G sd p s m args meth c cc nL own) (d : Dy G s M L H locs) (hr : meth.sig.returnType = some .long) (hz : v = z) (hd : decode cc pc = .ok (.lreturn, 1)) : W p l e R s m args below meth c H locs cells slots (MQ below (Ql G z M L) args s cells slots (gA G)) (F0 m pc ls [.long v]) :=
  W.lret S.1 S.2.1 hr (fun t ht hW => ⟨⟨v, (), rfl, hz, by show va_P _ _ _ _; rw [ht]; exact d.1⟩, d.2.F ht⟩) d.2.2.2 hd S.2.2.2.2.2.1
theorem r_vret (S : Sx G sd p s m args meth c cc nL own) (d : Dy G s M L H locs) (hr : meth.sig.returnType = none) (hd : decode cc pc = .ok (.return_, 1)) : W p l e R s m args below meth c H locs cells slots (MQ below (Qv G M L) args s cells slots (gA G)) (F0 m pc ls []) :=
  W.vret S.1 S.2.1 hr (fun t ht hW => ⟨⟨(), rfl, trivial, by show va_P _ _ _ _; rw [ht]; exact d.1⟩, d.2.F ht⟩) d.2.2.2 hd S.2.2.2.2.2.1
theorem isZ_nar {v : Int32} (h : isZ v = true) : narrow .boolean (.int v) = .int v := by
  rcases isZ_e h with rfl | rfl <;> rfl
/-- the entry of a method -/
theorem r_in (hy : plainName y.cls = true) (h : ∀ p e s m args below meth c, Sx G sd p s m args meth c bytes maxL y.cls → meth.sig.returnType = ret → Dy G s M L s.heap [] → args = As.toArray → ∀ ls, lv_has ls maxL (lv_args 0 As) → W p l e rm s m args below meth c s.heap [] 0 0 (MQ below Qc args s 0 0 (gA G)) (F0 m 0 ls [])) (hlen : (lg_sl As).length ≤ maxL) : Met l y (.code y bytes maxL ret :: UW) rm (va_Pc As (PreG G sd M L)) Qc 0 0 (gA G) := by
  refine Met.ofW (cc := bytes) (maxL := maxL) (ret := ret) hy rfl ?_
  intro p e s m args below meth c s₁ B hml hv
  obtain ⟨rfl, hP, hK, hT, hD, hsd, hA⟩ := hv
  have hts := atoms_spec (ws := .code y bytes maxL ret :: UW) B.pre
  rw [lg_entry_eq]
  exact h p e s m _ below meth c ⟨B.exec, B.bytes, hml, findClass_of_methodNamed B.named, fun w hw => hts w (List.mem_cons_of_mem _ hw), B.notSynchronized, hK, hT, hD, hsd, hA⟩ B.returns ⟨hP, va_S.rf⟩ rfl _ (lv_entry As hlen)
theorem r_top {x v : Int32} (ev : v = x) (kk : W p l e R s m args below meth c H locs cells slots Q (F0 m pc ls (.int v :: rest))) : W p l e R s m args below meth c H locs cells slots Q (F0 m pc ls (.int x :: rest)) := by subst ev; exact kk
theorem r_topl {x v : Int64} (ev : v = x) (kk : W p l e R s m args below meth c H locs cells slots Q (F0 m pc ls (.long v :: rest))) : W p l e R s m args below meth c H locs cells slots Q (F0 m pc ls (.long x :: rest)) := by subst ev; exact kk
end RW

theorem gf_0_0 {p : Program} {l : Launch} {e : Env} {R : Room} {s : State} {m : MethodId} {args : Array Value} {below : List Frame} {meth : Method} {c : Code} {H : Heap} {locs : List Loc} {cells slots : Nat} {Q : State → Prop} {cc : ByteArray} {nL : Nat} {own : String} {pc : Nat} {ls : Array Slot} {rest : List Value} {G : Gx} {M : Mem} {L : MemL} (S : Sx G false p s m args meth c cc nL own) (d : Dy G s M L H locs) {k idx : Nat} (hk : kd k = 0) (hl : (.fieldLink own idx "MownWords" "meadow" "LMownWords$Meadow;" : Cond) ∈ UW) (hd : decode cc pc = .ok (.getfield idx, 3)) (kk : W p l e R s m args below meth c H locs cells slots Q (F0 m (pc + 3) ls (.ref (ad G (k + 1)) :: rest))) : W p l e R s m args below meth c H locs cells slots Q (F0 m pc ls (.ref (ad G k) :: rest)) :=
  r_get S d (k := k) (ci := 8) (f := 0) (C := RX8) (T := TX8) (N := 7) (ksdC S hk) (wc_0 hk) rfl fx_X8 (by decide) hl rfl hd kk
theorem gf_0_1 {p : Program} {l : Launch} {e : Env} {R : Room} {s : State} {m : MethodId} {args : Array Value} {below : List Frame} {meth : Method} {c : Code} {H : Heap} {locs : List Loc} {cells slots : Nat} {Q : State → Prop} {cc : ByteArray} {nL : Nat} {own : String} {pc : Nat} {ls : Array Slot} {rest : List Value} {G : Gx} {M : Mem} {L : MemL} (S : Sx G false p s m args meth c cc nL own) (d : Dy G s M L H locs) {k idx : Nat} (hk : kd k = 0) (hl : (.fieldLink own idx "MownWords" "kept" "LMownWords$Meadow;" : Cond) ∈ UW) (hd : decode cc pc = .ok (.getfield idx, 3)) (kk : W p l e R s m args below meth c H locs cells slots Q (F0 m (pc + 3) ls (.ref (ad G (k + 45)) :: rest))) : W p l e R s m args below meth c H locs cells slots Q (F0 m pc ls (.ref (ad G k) :: rest)) :=
  r_get S d (k := k) (ci := 8) (f := 1) (C := RX8) (T := TX8) (N := 7) (ksdC S hk) (wc_0 hk) rfl fx_X8 (by decide) hl rfl hd kk
theorem gf_0_2 {p : Program} {l : Launch} {e : Env} {R : Room} {s : State} {m : MethodId} {args : Array Value} {below : List Frame} {meth : Method} {c : Code} {H : Heap} {locs : List Loc} {cells slots : Nat} {Q : State → Prop} {cc : ByteArray} {nL : Nat} {own : String} {pc : Nat} {ls : Array Slot} {rest : List Value} {G : Gx} {M : Mem} {L : MemL} (S : Sx G false p s m args meth c cc nL own) (d : Dy G s M L H locs) {k idx : Nat} (hk : kd k = 0) (hl : (.fieldLink own idx "MownWords" "isKept" "Z" : Cond) ∈ UW) (hd : decode cc pc = .ok (.getfield idx, 3)) (kk : W p l e R s m args below meth c H locs cells slots Q (F0 m (pc + 3) ls (.int (M k 2) :: rest))) : W p l e R s m args below meth c H locs cells slots Q (F0 m pc ls (.ref (ad G k) :: rest)) :=
  r_get S d (k := k) (ci := 8) (f := 2) (C := RX8) (T := TX8) (N := 7) (ksdC S hk) (wc_0 hk) rfl fx_X8 (by decide) hl rfl hd kk
theorem pf_0_2 {p : Program} {l : Launch} {e : Env} {R : Room} {s : State} {m : MethodId} {args : Array Value} {below : List Frame} {meth : Method} {c : Code} {H : Heap} {locs : List Loc} {cells slots : Nat} {Q : State → Prop} {cc : ByteArray} {nL : Nat} {own : String} {pc : Nat} {ls : Array Slot} {rest : List Value} {G : Gx} {M : Mem} {L : MemL} (S : Sx G false p s m args meth c cc nL own) (d : Dy G s M L H locs) {k idx : Nat} {x : Int32} {M1 : Mem} (eM : M1 = up M k 2 x) (hz : x = 0 ∨ x = 1) (hk : kd k = 0) (hl : (.fieldLink own idx "MownWords" "isKept" "Z" : Cond) ∈ UW) (hd : decode cc pc = .ok (.putfield idx, 3)) (kk : ∀ (H1 : Heap) (locs1 : List Loc), Dy G s M1 L H1 locs1 → W p l e R s m args below meth c H1 locs1 cells slots Q (F0 m (pc + 3) ls rest)) : W p l e R s m args below meth c H locs cells slots Q (F0 m pc ls (.int x :: .ref (ad G k) :: rest)) :=
  r_put S d (k := k) (ci := 8) (f := 2) (C := RX8) (T := TX8) (ty0 := tyX8) (N := 7) (ty := .boolean) (ksdC S hk) (wc_0 hk) rfl fx_X8 tyX8_ok nmX8 (by decide) hl rfl rfl (by rcases hz with rfl | rfl <;> rfl) (by rcases hz with rfl | rfl <;> rfl) (by show 2 < 7; decide) hd (up_oth eM) (by rw [eM]; exact (wc_0 hk).trans (by simp [up])) kk
theorem gf_0_3 {p : Program} {l : Launch} {e : Env} {R : Room} {s : State} {m : MethodId} {args : Array Value} {below : List Frame} {meth : Method} {c : Code} {H : Heap} {locs : List Loc} {cells slots : Nat} {Q : State → Prop} {cc : ByteArray} {nL : Nat} {own : String} {pc : Nat} {ls : Array Slot} {rest : List Value} {G : Gx} {M : Mem} {L : MemL} (S : Sx G false p s m args meth c cc nL own) (d : Dy G s M L H locs) {k idx : Nat} (hk : kd k = 0) (hl : (.fieldLink own idx "MownWords" "row" "LMownWords$Row;" : Cond) ∈ UW) (hd : decode cc pc = .ok (.getfield idx, 3)) (kk : W p l e R s m args below meth c H locs cells slots Q (F0 m (pc + 3) ls (.ref (ad G (k + 89)) :: rest))) : W p l e R s m args below meth c H locs cells slots Q (F0 m pc ls (.ref (ad G k) :: rest)) :=
  r_get S d (k := k) (ci := 8) (f := 3) (C := RX8) (T := TX8) (N := 7) (ksdC S hk) (wc_0 hk) rfl fx_X8 (by decide) hl rfl hd kk
theorem gf_0_4 {p : Program} {l : Launch} {e : Env} {R : Room} {s : State} {m : MethodId} {args : Array Value} {below : List Frame} {meth : Method} {c : Code} {H : Heap} {locs : List Loc} {cells slots : Nat} {Q : State → Prop} {cc : ByteArray} {nL : Nat} {own : String} {pc : Nat} {ls : Array Slot} {rest : List Value} {G : Gx} {M : Mem} {L : MemL} (S : Sx G false p s m args meth c cc nL own) (d : Dy G s M L H locs) {k idx : Nat} (hk : kd k = 0) (hl : (.fieldLink own idx "MownWords" "odds" "LMownWords$Odds;" : Cond) ∈ UW) (hd : decode cc pc = .ok (.getfield idx, 3)) (kk : W p l e R s m args below meth c H locs cells slots Q (F0 m (pc + 3) ls (.ref (ad G (k + 102)) :: rest))) : W p l e R s m args below meth c H locs cells slots Q (F0 m pc ls (.ref (ad G k) :: rest)) :=
  r_get S d (k := k) (ci := 8) (f := 4) (C := RX8) (T := TX8) (N := 7) (ksdC S hk) (wc_0 hk) rfl fx_X8 (by decide) hl rfl hd kk
theorem gf_0_5 {p : Program} {l : Launch} {e : Env} {R : Room} {s : State} {m : MethodId} {args : Array Value} {below : List Frame} {meth : Method} {c : Code} {H : Heap} {locs : List Loc} {cells slots : Nat} {Q : State → Prop} {cc : ByteArray} {nL : Nat} {own : String} {pc : Nat} {ls : Array Slot} {rest : List Value} {G : Gx} {M : Mem} {L : MemL} (S : Sx G false p s m args meth c cc nL own) (d : Dy G s M L H locs) {k idx : Nat} (hk : kd k = 0) (hl : (.fieldLink own idx "MownWords" "tape" "LMownWords$Tape;" : Cond) ∈ UW) (hd : decode cc pc = .ok (.getfield idx, 3)) (kk : W p l e R s m args below meth c H locs cells slots Q (F0 m (pc + 3) ls (.ref (ad G (k + 105)) :: rest))) : W p l e R s m args below meth c H locs cells slots Q (F0 m pc ls (.ref (ad G k) :: rest)) :=
  r_get S d (k := k) (ci := 8) (f := 5) (C := RX8) (T := TX8) (N := 7) (ksdC S hk) (wc_0 hk) rfl fx_X8 (by decide) hl rfl hd kk
theorem gf_0_6 {p : Program} {l : Launch} {e : Env} {R : Room} {s : State} {m : MethodId} {args : Array Value} {below : List Frame} {meth : Method} {c : Code} {H : Heap} {locs : List Loc} {cells slots : Nat} {Q : State → Prop} {cc : ByteArray} {nL : Nat} {own : String} {pc : Nat} {ls : Array Slot} {rest : List Value} {G : Gx} {M : Mem} {L : MemL} (S : Sx G false p s m args meth c cc nL own) (d : Dy G s M L H locs) {k idx : Nat} (hk : kd k = 0) (hl : (.fieldLink own idx "MownWords" "sheets" "[LMownWords$Sheet;" : Cond) ∈ UW) (hd : decode cc pc = .ok (.getfield idx, 3)) (kk : W p l e R s m args below meth c H locs cells slots Q (F0 m (pc + 3) ls (.ref (ad G (k + 117)) :: rest))) : W p l e R s m args below meth c H locs cells slots Q (F0 m pc ls (.ref (ad G k) :: rest)) :=
  r_get S d (k := k) (ci := 8) (f := 6) (C := RX8) (T := TX8) (N := 7) (ksdC S hk) (wc_0 hk) rfl fx_X8 (by decide) hl rfl hd kk
theorem gf_1_0 {p : Program} {l : Launch} {e : Env} {R : Room} {s : State} {m : MethodId} {args : Array Value} {below : List Frame} {meth : Method} {c : Code} {H : Heap} {locs : List Loc} {cells slots : Nat} {Q : State → Prop} {cc : ByteArray} {nL : Nat} {own : String} {pc : Nat} {ls : Array Slot} {rest : List Value} {G : Gx} {M : Mem} {L : MemL} (S : Sx G false p s m args meth c cc nL own) (d : Dy G s M L H locs) {k idx : Nat} (hk : kd k = 1) (hl : (.fieldLink own idx "MownWords$Meadow" "settings" "[I" : Cond) ∈ UW) (hd : decode cc pc = .ok (.getfield idx, 3)) (kk : W p l e R s m args below meth c H locs cells slots Q (F0 m (pc + 3) ls (.ref (ad G (k + 1)) :: rest))) : W p l e R s m args below meth c H locs cells slots Q (F0 m pc ls (.ref (ad G k) :: rest)) :=
  r_get S d (k := k) (ci := 0) (f := 0) (C := RX0) (T := TX0) (N := 7) (ksdC S hk) (wc_1 hk) rfl fx_X0 (by decide) hl rfl hd kk
theorem gf_1_1 {p : Program} {l : Launch} {e : Env} {R : Room} {s : State} {m : MethodId} {args : Array Value} {below : List Frame} {meth : Method} {c : Code} {H : Heap} {locs : List Loc} {cells slots : Nat} {Q : State → Prop} {cc : ByteArray} {nL : Nat} {own : String} {pc : Nat} {ls : Array Slot} {rest : List Value} {G : Gx} {M : Mem} {L : MemL} (S : Sx G false p s m args meth c cc nL own) (d : Dy G s M L H locs) {k idx : Nat} (hk : kd k = 1) (hl : (.fieldLink own idx "MownWords$Meadow" "strips" "[LMownWords$Strip;" : Cond) ∈ UW) (hd : decode cc pc = .ok (.getfield idx, 3)) (kk : W p l e R s m args below meth c H locs cells slots Q (F0 m (pc + 3) ls (.ref (ad G (k + 2)) :: rest))) : W p l e R s m args below meth c H locs cells slots Q (F0 m pc ls (.ref (ad G k) :: rest)) :=
  r_get S d (k := k) (ci := 0) (f := 1) (C := RX0) (T := TX0) (N := 7) (ksdC S hk) (wc_1 hk) rfl fx_X0 (by decide) hl rfl hd kk
theorem gf_1_2 {p : Program} {l : Launch} {e : Env} {R : Room} {s : State} {m : MethodId} {args : Array Value} {below : List Frame} {meth : Method} {c : Code} {H : Heap} {locs : List Loc} {cells slots : Nat} {Q : State → Prop} {cc : ByteArray} {nL : Nat} {own : String} {pc : Nat} {ls : Array Slot} {rest : List Value} {G : Gx} {M : Mem} {L : MemL} (S : Sx G false p s m args meth c cc nL own) (d : Dy G s M L H locs) {k idx : Nat} (hk : kd k = 1) (hl : (.fieldLink own idx "MownWords$Meadow" "stripCount" "I" : Cond) ∈ UW) (hd : decode cc pc = .ok (.getfield idx, 3)) (kk : W p l e R s m args below meth c H locs cells slots Q (F0 m (pc + 3) ls (.int (M k 2) :: rest))) : W p l e R s m args below meth c H locs cells slots Q (F0 m pc ls (.ref (ad G k) :: rest)) :=
  r_get S d (k := k) (ci := 0) (f := 2) (C := RX0) (T := TX0) (N := 7) (ksdC S hk) (wc_1 hk) rfl fx_X0 (by decide) hl rfl hd kk
theorem pf_1_2 {p : Program} {l : Launch} {e : Env} {R : Room} {s : State} {m : MethodId} {args : Array Value} {below : List Frame} {meth : Method} {c : Code} {H : Heap} {locs : List Loc} {cells slots : Nat} {Q : State → Prop} {cc : ByteArray} {nL : Nat} {own : String} {pc : Nat} {ls : Array Slot} {rest : List Value} {G : Gx} {M : Mem} {L : MemL} (S : Sx G false p s m args meth c cc nL own) (d : Dy G s M L H locs) {k idx : Nat} {x : Int32} {M1 : Mem} (eM : M1 = up M k 2 x) (hk : kd k = 1) (hl : (.fieldLink own idx "MownWords$Meadow" "stripCount" "I" : Cond) ∈ UW) (hd : decode cc pc = .ok (.putfield idx, 3)) (kk : ∀ (H1 : Heap) (locs1 : List Loc), Dy G s M1 L H1 locs1 → W p l e R s m args below meth c H1 locs1 cells slots Q (F0 m (pc + 3) ls rest)) : W p l e R s m args below meth c H locs cells slots Q (F0 m pc ls (.int x :: .ref (ad G k) :: rest)) :=
  r_put S d (k := k) (ci := 0) (f := 2) (C := RX0) (T := TX0) (ty0 := tyX0) (N := 7) (ty := .int) (ksdC S hk) (wc_1 hk) rfl fx_X0 tyX0_ok nmX0 (by decide) hl rfl rfl rfl rfl (by show 2 < 7; decide) hd (up_oth eM) (by rw [eM]; exact (wc_1 hk).trans (by simp [up])) kk
theorem gf_1_3 {p : Program} {l : Launch} {e : Env} {R : Room} {s : State} {m : MethodId} {args : Array Value} {below : List Frame} {meth : Method} {c : Code} {H : Heap} {locs : List Loc} {cells slots : Nat} {Q : State → Prop} {cc : ByteArray} {nL : Nat} {own : String} {pc : Nat} {ls : Array Slot} {rest : List Value} {G : Gx} {M : Mem} {L : MemL} (S : Sx G false p s m args meth c cc nL own) (d : Dy G s M L H locs) {k idx : Nat} (hk : kd k = 1) (hl : (.fieldLink own idx "MownWords$Meadow" "words" "[LMownWords$Word;" : Cond) ∈ UW) (hd : decode cc pc = .ok (.getfield idx, 3)) (kk : W p l e R s m args below meth c H locs cells slots Q (F0 m (pc + 3) ls (.ref (ad G (k + 3)) :: rest))) : W p l e R s m args below meth c H locs cells slots Q (F0 m pc ls (.ref (ad G k) :: rest)) :=
  r_get S d (k := k) (ci := 0) (f := 3) (C := RX0) (T := TX0) (N := 7) (ksdC S hk) (wc_1 hk) rfl fx_X0 (by decide) hl rfl hd kk
theorem gf_1_4 {p : Program} {l : Launch} {e : Env} {R : Room} {s : State} {m : MethodId} {args : Array Value} {below : List Frame} {meth : Method} {c : Code} {H : Heap} {locs : List Loc} {cells slots : Nat} {Q : State → Prop} {cc : ByteArray} {nL : Nat} {own : String} {pc : Nat} {ls : Array Slot} {rest : List Value} {G : Gx} {M : Mem} {L : MemL} (S : Sx G false p s m args meth c cc nL own) (d : Dy G s M L H locs) {k idx : Nat} (hk : kd k = 1) (hl : (.fieldLink own idx "MownWords$Meadow" "wordCount" "I" : Cond) ∈ UW) (hd : decode cc pc = .ok (.getfield idx, 3)) (kk : W p l e R s m args below meth c H locs cells slots Q (F0 m (pc + 3) ls (.int (M k 4) :: rest))) : W p l e R s m args below meth c H locs cells slots Q (F0 m pc ls (.ref (ad G k) :: rest)) :=
  r_get S d (k := k) (ci := 0) (f := 4) (C := RX0) (T := TX0) (N := 7) (ksdC S hk) (wc_1 hk) rfl fx_X0 (by decide) hl rfl hd kk
theorem pf_1_4 {p : Program} {l : Launch} {e : Env} {R : Room} {s : State} {m : MethodId} {args : Array Value} {below : List Frame} {meth : Method} {c : Code} {H : Heap} {locs : List Loc} {cells slots : Nat} {Q : State → Prop} {cc : ByteArray} {nL : Nat} {own : String} {pc : Nat} {ls : Array Slot} {rest : List Value} {G : Gx} {M : Mem} {L : MemL} (S : Sx G false p s m args meth c cc nL own) (d : Dy G s M L H locs) {k idx : Nat} {x : Int32} {M1 : Mem} (eM : M1 = up M k 4 x) (hk : kd k = 1) (hl : (.fieldLink own idx "MownWords$Meadow" "wordCount" "I" : Cond) ∈ UW) (hd : decode cc pc = .ok (.putfield idx, 3)) (kk : ∀ (H1 : Heap) (locs1 : List Loc), Dy G s M1 L H1 locs1 → W p l e R s m args below meth c H1 locs1 cells slots Q (F0 m (pc + 3) ls rest)) : W p l e R s m args below meth c H locs cells slots Q (F0 m pc ls (.int x :: .ref (ad G k) :: rest)) :=
  r_put S d (k := k) (ci := 0) (f := 4) (C := RX0) (T := TX0) (ty0 := tyX0) (N := 7) (ty := .int) (ksdC S hk) (wc_1 hk) rfl fx_X0 tyX0_ok nmX0 (by decide) hl rfl rfl rfl rfl (by show 4 < 7; decide) hd (up_oth eM) (by rw [eM]; exact (wc_1 hk).trans (by simp [up])) kk
theorem gf_1_5 {p : Program} {l : Launch} {e : Env} {R : Room} {s : State} {m : MethodId} {args : Array Value} {below : List Frame} {meth : Method} {c : Code} {H : Heap} {locs : List Loc} {cells slots : Nat} {Q : State → Prop} {cc : ByteArray} {nL : Nat} {own : String} {pc : Nat} {ls : Array Slot} {rest : List Value} {G : Gx} {M : Mem} {L : MemL} (S : Sx G false p s m args meth c cc nL own) (d : Dy G s M L H locs) {k idx : Nat} (hk : kd k = 1) (hl : (.fieldLink own idx "MownWords$Meadow" "foes" "[I" : Cond) ∈ UW) (hd : decode cc pc = .ok (.getfield idx, 3)) (kk : W p l e R s m args below meth c H locs cells slots Q (F0 m (pc + 3) ls (.ref (ad G (k + 4)) :: rest))) : W p l e R s m args below meth c H locs cells slots Q (F0 m pc ls (.ref (ad G k) :: rest)) :=
  r_get S d (k := k) (ci := 0) (f := 5) (C := RX0) (T := TX0) (N := 7) (ksdC S hk) (wc_1 hk) rfl fx_X0 (by decide) hl rfl hd kk
theorem gf_1_6 {p : Program} {l : Launch} {e : Env} {R : Room} {s : State} {m : MethodId} {args : Array Value} {below : List Frame} {meth : Method} {c : Code} {H : Heap} {locs : List Loc} {cells slots : Nat} {Q : State → Prop} {cc : ByteArray} {nL : Nat} {own : String} {pc : Nat} {ls : Array Slot} {rest : List Value} {G : Gx} {M : Mem} {L : MemL} (S : Sx G false p s m args meth c cc nL own) (d : Dy G s M L H locs) {k idx : Nat} (hk : kd k = 1) (hl : (.fieldLink own idx "MownWords$Meadow" "hays" "[I" : Cond) ∈ UW) (hd : decode cc pc = .ok (.getfield idx, 3)) (kk : W p l e R s m args below meth c H locs cells slots Q (F0 m (pc + 3) ls (.ref (ad G (k + 5)) :: rest))) : W p l e R s m args below meth c H locs cells slots Q (F0 m pc ls (.ref (ad G k) :: rest)) :=
  r_get S d (k := k) (ci := 0) (f := 6) (C := RX0) (T := TX0) (N := 7) (ksdC S hk) (wc_1 hk) rfl fx_X0 (by decide) hl rfl hd kk
theorem gf_2_0 {p : Program} {l : Launch} {e : Env} {R : Room} {s : State} {m : MethodId} {args : Array Value} {below : List Frame} {meth : Method} {c : Code} {H : Heap} {locs : List Loc} {cells slots : Nat} {Q : State → Prop} {cc : ByteArray} {nL : Nat} {own : String} {pc : Nat} {ls : Array Slot} {rest : List Value} {G : Gx} {M : Mem} {L : MemL} (S : Sx G false p s m args meth c cc nL own) (d : Dy G s M L H locs) {k idx : Nat} (hk : kd k = 2) (hl : (.fieldLink own idx "MownWords$Strip" "owner" "I" : Cond) ∈ UW) (hd : decode cc pc = .ok (.getfield idx, 3)) (kk : W p l e R s m args below meth c H locs cells slots Q (F0 m (pc + 3) ls (.int (M k 0) :: rest))) : W p l e R s m args below meth c H locs cells slots Q (F0 m pc ls (.ref (ad G k) :: rest)) :=
  r_get S d (k := k) (ci := 4) (f := 0) (C := RX4) (T := TX4) (N := 2) (ksdC S hk) (wc_2 hk) rfl fx_X4 (by decide) hl rfl hd kk
theorem pf_2_0 {p : Program} {l : Launch} {e : Env} {R : Room} {s : State} {m : MethodId} {args : Array Value} {below : List Frame} {meth : Method} {c : Code} {H : Heap} {locs : List Loc} {cells slots : Nat} {Q : State → Prop} {cc : ByteArray} {nL : Nat} {own : String} {pc : Nat} {ls : Array Slot} {rest : List Value} {G : Gx} {M : Mem} {L : MemL} (S : Sx G false p s m args meth c cc nL own) (d : Dy G s M L H locs) {k idx : Nat} {x : Int32} {M1 : Mem} (eM : M1 = up M k 0 x) (hk : kd k = 2) (hl : (.fieldLink own idx "MownWords$Strip" "owner" "I" : Cond) ∈ UW) (hd : decode cc pc = .ok (.putfield idx, 3)) (kk : ∀ (H1 : Heap) (locs1 : List Loc), Dy G s M1 L H1 locs1 → W p l e R s m args below meth c H1 locs1 cells slots Q (F0 m (pc + 3) ls rest)) : W p l e R s m args below meth c H locs cells slots Q (F0 m pc ls (.int x :: .ref (ad G k) :: rest)) :=
  r_put S d (k := k) (ci := 4) (f := 0) (C := RX4) (T := TX4) (ty0 := tyX4) (N := 2) (ty := .int) (ksdC S hk) (wc_2 hk) rfl fx_X4 tyX4_ok nmX4 (by decide) hl rfl rfl rfl rfl (by show 0 < 2; decide) hd (up_oth eM) (by rw [eM]; exact (wc_2 hk).trans (by simp [up])) kk
theorem gf_2_1 {p : Program} {l : Launch} {e : Env} {R : Room} {s : State} {m : MethodId} {args : Array Value} {below : List Frame} {meth : Method} {c : Code} {H : Heap} {locs : List Loc} {cells slots : Nat} {Q : State → Prop} {cc : ByteArray} {nL : Nat} {own : String} {pc : Nat} {ls : Array Slot} {rest : List Value} {G : Gx} {M : Mem} {L : MemL} (S : Sx G false p s m args meth c cc nL own) (d : Dy G s M L H locs) {k idx : Nat} (hk : kd k = 2) (hl : (.fieldLink own idx "MownWords$Strip" "blades" "[I" : Cond) ∈ UW) (hd : decode cc pc = .ok (.getfield idx, 3)) (kk : W p l e R s m args below meth c H locs cells slots Q (F0 m (pc + 3) ls (.ref (ad G (k + 1)) :: rest))) : W p l e R s m args below meth c H locs cells slots Q (F0 m pc ls (.ref (ad G k) :: rest)) :=
  r_get S d (k := k) (ci := 4) (f := 1) (C := RX4) (T := TX4) (N := 2) (ksdC S hk) (wc_2 hk) rfl fx_X4 (by decide) hl rfl hd kk
theorem gf_3_0 {p : Program} {l : Launch} {e : Env} {R : Room} {s : State} {m : MethodId} {args : Array Value} {below : List Frame} {meth : Method} {c : Code} {H : Heap} {locs : List Loc} {cells slots : Nat} {Q : State → Prop} {cc : ByteArray} {nL : Nat} {own : String} {pc : Nat} {ls : Array Slot} {rest : List Value} {G : Gx} {M : Mem} {L : MemL} (S : Sx G false p s m args meth c cc nL own) (d : Dy G s M L H locs) {k idx : Nat} (hk : kd k = 3) (hl : (.fieldLink own idx "MownWords$Word" "length" "I" : Cond) ∈ UW) (hd : decode cc pc = .ok (.getfield idx, 3)) (kk : W p l e R s m args below meth c H locs cells slots Q (F0 m (pc + 3) ls (.int (M k 0) :: rest))) : W p l e R s m args below meth c H locs cells slots Q (F0 m pc ls (.ref (ad G k) :: rest)) :=
  r_get S d (k := k) (ci := 7) (f := 0) (C := RX7) (T := TX7) (N := 3) (ksdC S hk) (wc_3 hk) rfl fx_X7 (by decide) hl rfl hd kk
theorem pf_3_0 {p : Program} {l : Launch} {e : Env} {R : Room} {s : State} {m : MethodId} {args : Array Value} {below : List Frame} {meth : Method} {c : Code} {H : Heap} {locs : List Loc} {cells slots : Nat} {Q : State → Prop} {cc : ByteArray} {nL : Nat} {own : String} {pc : Nat} {ls : Array Slot} {rest : List Value} {G : Gx} {M : Mem} {L : MemL} (S : Sx G false p s m args meth c cc nL own) (d : Dy G s M L H locs) {k idx : Nat} {x : Int32} {M1 : Mem} (eM : M1 = up M k 0 x) (hk : kd k = 3) (hl : (.fieldLink own idx "MownWords$Word" "length" "I" : Cond) ∈ UW) (hd : decode cc pc = .ok (.putfield idx, 3)) (kk : ∀ (H1 : Heap) (locs1 : List Loc), Dy G s M1 L H1 locs1 → W p l e R s m args below meth c H1 locs1 cells slots Q (F0 m (pc + 3) ls rest)) : W p l e R s m args below meth c H locs cells slots Q (F0 m pc ls (.int x :: .ref (ad G k) :: rest)) :=
  r_put S d (k := k) (ci := 7) (f := 0) (C := RX7) (T := TX7) (ty0 := tyX7) (N := 3) (ty := .int) (ksdC S hk) (wc_3 hk) rfl fx_X7 tyX7_ok nmX7 (by decide) hl rfl rfl rfl rfl (by show 0 < 3; decide) hd (up_oth eM) (by rw [eM]; exact (wc_3 hk).trans (by simp [up])) kk
theorem gf_3_1 {p : Program} {l : Launch} {e : Env} {R : Room} {s : State} {m : MethodId} {args : Array Value} {below : List Frame} {meth : Method} {c : Code} {H : Heap} {locs : List Loc} {cells slots : Nat} {Q : State → Prop} {cc : ByteArray} {nL : Nat} {own : String} {pc : Nat} {ls : Array Slot} {rest : List Value} {G : Gx} {M : Mem} {L : MemL} (S : Sx G false p s m args meth c cc nL own) (d : Dy G s M L H locs) {k idx : Nat} (hk : kd k = 3) (hl : (.fieldLink own idx "MownWords$Word" "wage" "I" : Cond) ∈ UW) (hd : decode cc pc = .ok (.getfield idx, 3)) (kk : W p l e R s m args below meth c H locs cells slots Q (F0 m (pc + 3) ls (.int (M k 1) :: rest))) : W p l e R s m args below meth c H locs cells slots Q (F0 m pc ls (.ref (ad G k) :: rest)) :=
  r_get S d (k := k) (ci := 7) (f := 1) (C := RX7) (T := TX7) (N := 3) (ksdC S hk) (wc_3 hk) rfl fx_X7 (by decide) hl rfl hd kk
theorem pf_3_1 {p : Program} {l : Launch} {e : Env} {R : Room} {s : State} {m : MethodId} {args : Array Value} {below : List Frame} {meth : Method} {c : Code} {H : Heap} {locs : List Loc} {cells slots : Nat} {Q : State → Prop} {cc : ByteArray} {nL : Nat} {own : String} {pc : Nat} {ls : Array Slot} {rest : List Value} {G : Gx} {M : Mem} {L : MemL} (S : Sx G false p s m args meth c cc nL own) (d : Dy G s M L H locs) {k idx : Nat} {x : Int32} {M1 : Mem} (eM : M1 = up M k 1 x) (hk : kd k = 3) (hl : (.fieldLink own idx "MownWords$Word" "wage" "I" : Cond) ∈ UW) (hd : decode cc pc = .ok (.putfield idx, 3)) (kk : ∀ (H1 : Heap) (locs1 : List Loc), Dy G s M1 L H1 locs1 → W p l e R s m args below meth c H1 locs1 cells slots Q (F0 m (pc + 3) ls rest)) : W p l e R s m args below meth c H locs cells slots Q (F0 m pc ls (.int x :: .ref (ad G k) :: rest)) :=
  r_put S d (k := k) (ci := 7) (f := 1) (C := RX7) (T := TX7) (ty0 := tyX7) (N := 3) (ty := .int) (ksdC S hk) (wc_3 hk) rfl fx_X7 tyX7_ok nmX7 (by decide) hl rfl rfl rfl rfl (by show 1 < 3; decide) hd (up_oth eM) (by rw [eM]; exact (wc_3 hk).trans (by simp [up])) kk
theorem gf_3_2 {p : Program} {l : Launch} {e : Env} {R : Room} {s : State} {m : MethodId} {args : Array Value} {below : List Frame} {meth : Method} {c : Code} {H : Heap} {locs : List Loc} {cells slots : Nat} {Q : State → Prop} {cc : ByteArray} {nL : Nat} {own : String} {pc : Nat} {ls : Array Slot} {rest : List Value} {G : Gx} {M : Mem} {L : MemL} (S : Sx G false p s m args meth c cc nL own) (d : Dy G s M L H locs) {k idx : Nat} (hk : kd k = 3) (hl : (.fieldLink own idx "MownWords$Word" "letters" "[I" : Cond) ∈ UW) (hd : decode cc pc = .ok (.getfield idx, 3)) (kk : W p l e R s m args below meth c H locs cells slots Q (F0 m (pc + 3) ls (.ref (ad G (k + 1)) :: rest))) : W p l e R s m args below meth c H locs cells slots Q (F0 m pc ls (.ref (ad G k) :: rest)) :=
  r_get S d (k := k) (ci := 7) (f := 2) (C := RX7) (T := TX7) (N := 3) (ksdC S hk) (wc_3 hk) rfl fx_X7 (by decide) hl rfl hd kk
theorem gf_4_0 {p : Program} {l : Launch} {e : Env} {R : Room} {s : State} {m : MethodId} {args : Array Value} {below : List Frame} {meth : Method} {c : Code} {H : Heap} {locs : List Loc} {cells slots : Nat} {Q : State → Prop} {cc : ByteArray} {nL : Nat} {own : String} {pc : Nat} {ls : Array Slot} {rest : List Value} {G : Gx} {M : Mem} {L : MemL} (S : Sx G false p s m args meth c cc nL own) (d : Dy G s M L H locs) {k idx : Nat} (hk : kd k = 4) (hl : (.fieldLink own idx "MownWords$Row" "worths" "[[I" : Cond) ∈ UW) (hd : decode cc pc = .ok (.getfield idx, 3)) (kk : W p l e R s m args below meth c H locs cells slots Q (F0 m (pc + 3) ls (.ref (ad G (k + 1)) :: rest))) : W p l e R s m args below meth c H locs cells slots Q (F0 m pc ls (.ref (ad G k) :: rest)) :=
  r_get S d (k := k) (ci := 2) (f := 0) (C := RX2) (T := TX2) (N := 4) (ksdC S hk) (wc_4 hk) rfl fx_X2 (by decide) hl rfl hd kk
theorem gf_4_1 {p : Program} {l : Launch} {e : Env} {R : Room} {s : State} {m : MethodId} {args : Array Value} {below : List Frame} {meth : Method} {c : Code} {H : Heap} {locs : List Loc} {cells slots : Nat} {Q : State → Prop} {cc : ByteArray} {nL : Nat} {own : String} {pc : Nat} {ls : Array Slot} {rest : List Value} {G : Gx} {M : Mem} {L : MemL} (S : Sx G false p s m args meth c cc nL own) (d : Dy G s M L H locs) {k idx : Nat} (hk : kd k = 4) (hl : (.fieldLink own idx "MownWords$Row" "most" "[I" : Cond) ∈ UW) (hd : decode cc pc = .ok (.getfield idx, 3)) (kk : W p l e R s m args below meth c H locs cells slots Q (F0 m (pc + 3) ls (.ref (ad G (k + 11)) :: rest))) : W p l e R s m args below meth c H locs cells slots Q (F0 m pc ls (.ref (ad G k) :: rest)) :=
  r_get S d (k := k) (ci := 2) (f := 1) (C := RX2) (T := TX2) (N := 4) (ksdC S hk) (wc_4 hk) rfl fx_X2 (by decide) hl rfl hd kk
theorem gf_4_2 {p : Program} {l : Launch} {e : Env} {R : Room} {s : State} {m : MethodId} {args : Array Value} {below : List Frame} {meth : Method} {c : Code} {H : Heap} {locs : List Loc} {cells slots : Nat} {Q : State → Prop} {cc : ByteArray} {nL : Nat} {own : String} {pc : Nat} {ls : Array Slot} {rest : List Value} {G : Gx} {M : Mem} {L : MemL} (S : Sx G false p s m args meth c cc nL own) (d : Dy G s M L H locs) {k idx : Nat} (hk : kd k = 4) (hl : (.fieldLink own idx "MownWords$Row" "chosen" "[I" : Cond) ∈ UW) (hd : decode cc pc = .ok (.getfield idx, 3)) (kk : W p l e R s m args below meth c H locs cells slots Q (F0 m (pc + 3) ls (.ref (ad G (k + 12)) :: rest))) : W p l e R s m args below meth c H locs cells slots Q (F0 m pc ls (.ref (ad G k) :: rest)) :=
  r_get S d (k := k) (ci := 2) (f := 2) (C := RX2) (T := TX2) (N := 4) (ksdC S hk) (wc_4 hk) rfl fx_X2 (by decide) hl rfl hd kk
theorem gf_4_3 {p : Program} {l : Launch} {e : Env} {R : Room} {s : State} {m : MethodId} {args : Array Value} {below : List Frame} {meth : Method} {c : Code} {H : Heap} {locs : List Loc} {cells slots : Nat} {Q : State → Prop} {cc : ByteArray} {nL : Nat} {own : String} {pc : Nat} {ls : Array Slot} {rest : List Value} {G : Gx} {M : Mem} {L : MemL} (S : Sx G false p s m args meth c cc nL own) (d : Dy G s M L H locs) {k idx : Nat} (hk : kd k = 4) (hl : (.fieldLink own idx "MownWords$Row" "length" "I" : Cond) ∈ UW) (hd : decode cc pc = .ok (.getfield idx, 3)) (kk : W p l e R s m args below meth c H locs cells slots Q (F0 m (pc + 3) ls (.int (M k 3) :: rest))) : W p l e R s m args below meth c H locs cells slots Q (F0 m pc ls (.ref (ad G k) :: rest)) :=
  r_get S d (k := k) (ci := 2) (f := 3) (C := RX2) (T := TX2) (N := 4) (ksdC S hk) (wc_4 hk) rfl fx_X2 (by decide) hl rfl hd kk
theorem pf_4_3 {p : Program} {l : Launch} {e : Env} {R : Room} {s : State} {m : MethodId} {args : Array Value} {below : List Frame} {meth : Method} {c : Code} {H : Heap} {locs : List Loc} {cells slots : Nat} {Q : State → Prop} {cc : ByteArray} {nL : Nat} {own : String} {pc : Nat} {ls : Array Slot} {rest : List Value} {G : Gx} {M : Mem} {L : MemL} (S : Sx G false p s m args meth c cc nL own) (d : Dy G s M L H locs) {k idx : Nat} {x : Int32} {M1 : Mem} (eM : M1 = up M k 3 x) (hk : kd k = 4) (hl : (.fieldLink own idx "MownWords$Row" "length" "I" : Cond) ∈ UW) (hd : decode cc pc = .ok (.putfield idx, 3)) (kk : ∀ (H1 : Heap) (locs1 : List Loc), Dy G s M1 L H1 locs1 → W p l e R s m args below meth c H1 locs1 cells slots Q (F0 m (pc + 3) ls rest)) : W p l e R s m args below meth c H locs cells slots Q (F0 m pc ls (.int x :: .ref (ad G k) :: rest)) :=
  r_put S d (k := k) (ci := 2) (f := 3) (C := RX2) (T := TX2) (ty0 := tyX2) (N := 4) (ty := .int) (ksdC S hk) (wc_4 hk) rfl fx_X2 tyX2_ok nmX2 (by decide) hl rfl rfl rfl rfl (by show 3 < 4; decide) hd (up_oth eM) (by rw [eM]; exact (wc_4 hk).trans (by simp [up])) kk
theorem gf_5_1 {p : Program} {l : Launch} {e : Env} {R : Room} {s : State} {m : MethodId} {args : Array Value} {below : List Frame} {meth : Method} {c : Code} {H : Heap} {locs : List Loc} {cells slots : Nat} {Q : State → Prop} {cc : ByteArray} {nL : Nat} {own : String} {pc : Nat} {ls : Array Slot} {rest : List Value} {G : Gx} {M : Mem} {L : MemL} (S : Sx G false p s m args meth c cc nL own) (d : Dy G s M L H locs) {k idx : Nat} (hk : kd k = 5) (hl : (.fieldLink own idx "MownWords$Odds" "tallies" "[LMownWords$Tally;" : Cond) ∈ UW) (hd : decode cc pc = .ok (.getfield idx, 3)) (kk : W p l e R s m args below meth c H locs cells slots Q (F0 m (pc + 3) ls (.ref (ad G (k + 1)) :: rest))) : W p l e R s m args below meth c H locs cells slots Q (F0 m pc ls (.ref (ad G k) :: rest)) :=
  r_get S d (k := k) (ci := 1) (f := 1) (C := RX1) (T := TX1) (N := 3) (ksdC S hk) (wc_5 hk) rfl fx_X1 (by decide) hl rfl hd kk
theorem gf_5_2 {p : Program} {l : Launch} {e : Env} {R : Room} {s : State} {m : MethodId} {args : Array Value} {below : List Frame} {meth : Method} {c : Code} {H : Heap} {locs : List Loc} {cells slots : Nat} {Q : State → Prop} {cc : ByteArray} {nL : Nat} {own : String} {pc : Nat} {ls : Array Slot} {rest : List Value} {G : Gx} {M : Mem} {L : MemL} (S : Sx G false p s m args meth c cc nL own) (d : Dy G s M L H locs) {k idx : Nat} (hk : kd k = 5) (hl : (.fieldLink own idx "MownWords$Odds" "weights" "[J" : Cond) ∈ UW) (hd : decode cc pc = .ok (.getfield idx, 3)) (kk : W p l e R s m args below meth c H locs cells slots Q (F0 m (pc + 3) ls (.ref (ad G (k + 2)) :: rest))) : W p l e R s m args below meth c H locs cells slots Q (F0 m pc ls (.ref (ad G k) :: rest)) :=
  r_get S d (k := k) (ci := 1) (f := 2) (C := RX1) (T := TX1) (N := 3) (ksdC S hk) (wc_5 hk) rfl fx_X1 (by decide) hl rfl hd kk
theorem gf_6_0 {p : Program} {l : Launch} {e : Env} {R : Room} {s : State} {m : MethodId} {args : Array Value} {below : List Frame} {meth : Method} {c : Code} {H : Heap} {locs : List Loc} {cells slots : Nat} {Q : State → Prop} {cc : ByteArray} {nL : Nat} {own : String} {pc : Nat} {ls : Array Slot} {rest : List Value} {G : Gx} {M : Mem} {L : MemL} (S : Sx G false p s m args meth c cc nL own) (d : Dy G s M L H locs) {k idx : Nat} (hk : kd k = 6) (hl : (.fieldLink own idx "MownWords$Tape" "bytes" "[B" : Cond) ∈ UW) (hd : decode cc pc = .ok (.getfield idx, 3)) (kk : W p l e R s m args below meth c H locs cells slots Q (F0 m (pc + 3) ls (.ref (ad G (k + 1)) :: rest))) : W p l e R s m args below meth c H locs cells slots Q (F0 m pc ls (.ref (ad G k) :: rest)) :=
  r_get S d (k := k) (ci := 6) (f := 0) (C := RX6) (T := TX6) (N := 5) (ksdC S hk) (wc_6 hk) rfl fx_X6 (by decide) hl rfl hd kk
theorem gf_6_1 {p : Program} {l : Launch} {e : Env} {R : Room} {s : State} {m : MethodId} {args : Array Value} {below : List Frame} {meth : Method} {c : Code} {H : Heap} {locs : List Loc} {cells slots : Nat} {Q : State → Prop} {cc : ByteArray} {nL : Nat} {own : String} {pc : Nat} {ls : Array Slot} {rest : List Value} {G : Gx} {M : Mem} {L : MemL} (S : Sx G false p s m args meth c cc nL own) (d : Dy G s M L H locs) {k idx : Nat} (hk : kd k = 6) (hl : (.fieldLink own idx "MownWords$Tape" "length" "I" : Cond) ∈ UW) (hd : decode cc pc = .ok (.getfield idx, 3)) (kk : W p l e R s m args below meth c H locs cells slots Q (F0 m (pc + 3) ls (.int (M k 1) :: rest))) : W p l e R s m args below meth c H locs cells slots Q (F0 m pc ls (.ref (ad G k) :: rest)) :=
  r_get S d (k := k) (ci := 6) (f := 1) (C := RX6) (T := TX6) (N := 5) (ksdC S hk) (wc_6 hk) rfl fx_X6 (by decide) hl rfl hd kk
theorem pf_6_1 {p : Program} {l : Launch} {e : Env} {R : Room} {s : State} {m : MethodId} {args : Array Value} {below : List Frame} {meth : Method} {c : Code} {H : Heap} {locs : List Loc} {cells slots : Nat} {Q : State → Prop} {cc : ByteArray} {nL : Nat} {own : String} {pc : Nat} {ls : Array Slot} {rest : List Value} {G : Gx} {M : Mem} {L : MemL} (S : Sx G false p s m args meth c cc nL own) (d : Dy G s M L H locs) {k idx : Nat} {x : Int32} {M1 : Mem} (eM : M1 = up M k 1 x) (hk : kd k = 6) (hl : (.fieldLink own idx "MownWords$Tape" "length" "I" : Cond) ∈ UW) (hd : decode cc pc = .ok (.putfield idx, 3)) (kk : ∀ (H1 : Heap) (locs1 : List Loc), Dy G s M1 L H1 locs1 → W p l e R s m args below meth c H1 locs1 cells slots Q (F0 m (pc + 3) ls rest)) : W p l e R s m args below meth c H locs cells slots Q (F0 m pc ls (.int x :: .ref (ad G k) :: rest)) :=
  r_put S d (k := k) (ci := 6) (f := 1) (C := RX6) (T := TX6) (ty0 := tyX6) (N := 5) (ty := .int) (ksdC S hk) (wc_6 hk) rfl fx_X6 tyX6_ok nmX6 (by decide) hl rfl rfl rfl rfl (by show 1 < 5; decide) hd (up_oth eM) (by rw [eM]; exact (wc_6 hk).trans (by simp [up])) kk
theorem gf_6_2 {p : Program} {l : Launch} {e : Env} {R : Room} {s : State} {m : MethodId} {args : Array Value} {below : List Frame} {meth : Method} {c : Code} {H : Heap} {locs : List Loc} {cells slots : Nat} {Q : State → Prop} {cc : ByteArray} {nL : Nat} {own : String} {pc : Nat} {ls : Array Slot} {rest : List Value} {G : Gx} {M : Mem} {L : MemL} (S : Sx G false p s m args meth c cc nL own) (d : Dy G s M L H locs) {k idx : Nat} (hk : kd k = 6) (hl : (.fieldLink own idx "MownWords$Tape" "owners" "[I" : Cond) ∈ UW) (hd : decode cc pc = .ok (.getfield idx, 3)) (kk : W p l e R s m args below meth c H locs cells slots Q (F0 m (pc + 3) ls (.ref (ad G (k + 2)) :: rest))) : W p l e R s m args below meth c H locs cells slots Q (F0 m pc ls (.ref (ad G k) :: rest)) :=
  r_get S d (k := k) (ci := 6) (f := 2) (C := RX6) (T := TX6) (N := 5) (ksdC S hk) (wc_6 hk) rfl fx_X6 (by decide) hl rfl hd kk
theorem gf_6_3 {p : Program} {l : Launch} {e : Env} {R : Room} {s : State} {m : MethodId} {args : Array Value} {below : List Frame} {meth : Method} {c : Code} {H : Heap} {locs : List Loc} {cells slots : Nat} {Q : State → Prop} {cc : ByteArray} {nL : Nat} {own : String} {pc : Nat} {ls : Array Slot} {rest : List Value} {G : Gx} {M : Mem} {L : MemL} (S : Sx G false p s m args meth c cc nL own) (d : Dy G s M L H locs) {k idx : Nat} (hk : kd k = 6) (hl : (.fieldLink own idx "MownWords$Tape" "toldWords" "[LMownWords$Word;" : Cond) ∈ UW) (hd : decode cc pc = .ok (.getfield idx, 3)) (kk : W p l e R s m args below meth c H locs cells slots Q (F0 m (pc + 3) ls (.ref (ad G (k + 3)) :: rest))) : W p l e R s m args below meth c H locs cells slots Q (F0 m pc ls (.ref (ad G k) :: rest)) :=
  r_get S d (k := k) (ci := 6) (f := 3) (C := RX6) (T := TX6) (N := 5) (ksdC S hk) (wc_6 hk) rfl fx_X6 (by decide) hl rfl hd kk
theorem gf_6_4 {p : Program} {l : Launch} {e : Env} {R : Room} {s : State} {m : MethodId} {args : Array Value} {below : List Frame} {meth : Method} {c : Code} {H : Heap} {locs : List Loc} {cells slots : Nat} {Q : State → Prop} {cc : ByteArray} {nL : Nat} {own : String} {pc : Nat} {ls : Array Slot} {rest : List Value} {G : Gx} {M : Mem} {L : MemL} (S : Sx G false p s m args meth c cc nL own) (d : Dy G s M L H locs) {k idx : Nat} (hk : kd k = 6) (hl : (.fieldLink own idx "MownWords$Tape" "at" "I" : Cond) ∈ UW) (hd : decode cc pc = .ok (.getfield idx, 3)) (kk : W p l e R s m args below meth c H locs cells slots Q (F0 m (pc + 3) ls (.int (M k 4) :: rest))) : W p l e R s m args below meth c H locs cells slots Q (F0 m pc ls (.ref (ad G k) :: rest)) :=
  r_get S d (k := k) (ci := 6) (f := 4) (C := RX6) (T := TX6) (N := 5) (ksdC S hk) (wc_6 hk) rfl fx_X6 (by decide) hl rfl hd kk
theorem pf_6_4 {p : Program} {l : Launch} {e : Env} {R : Room} {s : State} {m : MethodId} {args : Array Value} {below : List Frame} {meth : Method} {c : Code} {H : Heap} {locs : List Loc} {cells slots : Nat} {Q : State → Prop} {cc : ByteArray} {nL : Nat} {own : String} {pc : Nat} {ls : Array Slot} {rest : List Value} {G : Gx} {M : Mem} {L : MemL} (S : Sx G false p s m args meth c cc nL own) (d : Dy G s M L H locs) {k idx : Nat} {x : Int32} {M1 : Mem} (eM : M1 = up M k 4 x) (hk : kd k = 6) (hl : (.fieldLink own idx "MownWords$Tape" "at" "I" : Cond) ∈ UW) (hd : decode cc pc = .ok (.putfield idx, 3)) (kk : ∀ (H1 : Heap) (locs1 : List Loc), Dy G s M1 L H1 locs1 → W p l e R s m args below meth c H1 locs1 cells slots Q (F0 m (pc + 3) ls rest)) : W p l e R s m args below meth c H locs cells slots Q (F0 m pc ls (.int x :: .ref (ad G k) :: rest)) :=
  r_put S d (k := k) (ci := 6) (f := 4) (C := RX6) (T := TX6) (ty0 := tyX6) (N := 5) (ty := .int) (ksdC S hk) (wc_6 hk) rfl fx_X6 tyX6_ok nmX6 (by decide) hl rfl rfl rfl rfl (by show 4 < 5; decide) hd (up_oth eM) (by rw [eM]; exact (wc_6 hk).trans (by simp [up])) kk
theorem gf_7_0 {p : Program} {l : Launch} {e : Env} {R : Room} {s : State} {m : MethodId} {args : Array Value} {below : List Frame} {meth : Method} {c : Code} {H : Heap} {locs : List Loc} {cells slots : Nat} {Q : State → Prop} {cc : ByteArray} {nL : Nat} {own : String} {pc : Nat} {ls : Array Slot} {rest : List Value} {G : Gx} {M : Mem} {L : MemL} (S : Sx G false p s m args meth c cc nL own) (d : Dy G s M L H locs) {k idx : Nat} (hk : kd k = 7) (hl : (.fieldLink own idx "MownWords$Sheet" "lane" "I" : Cond) ∈ UW) (hd : decode cc pc = .ok (.getfield idx, 3)) (kk : W p l e R s m args below meth c H locs cells slots Q (F0 m (pc + 3) ls (.int (M k 0) :: rest))) : W p l e R s m args below meth c H locs cells slots Q (F0 m pc ls (.ref (ad G k) :: rest)) :=
  r_get S d (k := k) (ci := 3) (f := 0) (C := RX3) (T := TX3) (N := 3) (ksdC S hk) (wc_7 hk) rfl fx_X3 (by decide) hl rfl hd kk
theorem pf_7_0 {p : Program} {l : Launch} {e : Env} {R : Room} {s : State} {m : MethodId} {args : Array Value} {below : List Frame} {meth : Method} {c : Code} {H : Heap} {locs : List Loc} {cells slots : Nat} {Q : State → Prop} {cc : ByteArray} {nL : Nat} {own : String} {pc : Nat} {ls : Array Slot} {rest : List Value} {G : Gx} {M : Mem} {L : MemL} (S : Sx G false p s m args meth c cc nL own) (d : Dy G s M L H locs) {k idx : Nat} {x : Int32} {M1 : Mem} (eM : M1 = up M k 0 x) (hk : kd k = 7) (hl : (.fieldLink own idx "MownWords$Sheet" "lane" "I" : Cond) ∈ UW) (hd : decode cc pc = .ok (.putfield idx, 3)) (kk : ∀ (H1 : Heap) (locs1 : List Loc), Dy G s M1 L H1 locs1 → W p l e R s m args below meth c H1 locs1 cells slots Q (F0 m (pc + 3) ls rest)) : W p l e R s m args below meth c H locs cells slots Q (F0 m pc ls (.int x :: .ref (ad G k) :: rest)) :=
  r_put S d (k := k) (ci := 3) (f := 0) (C := RX3) (T := TX3) (ty0 := tyX3) (N := 3) (ty := .int) (ksdC S hk) (wc_7 hk) rfl fx_X3 tyX3_ok nmX3 (by decide) hl rfl rfl rfl rfl (by show 0 < 3; decide) hd (up_oth eM) (by rw [eM]; exact (wc_7 hk).trans (by simp [up])) kk
theorem gf_7_1 {p : Program} {l : Launch} {e : Env} {R : Room} {s : State} {m : MethodId} {args : Array Value} {below : List Frame} {meth : Method} {c : Code} {H : Heap} {locs : List Loc} {cells slots : Nat} {Q : State → Prop} {cc : ByteArray} {nL : Nat} {own : String} {pc : Nat} {ls : Array Slot} {rest : List Value} {G : Gx} {M : Mem} {L : MemL} (S : Sx G false p s m args meth c cc nL own) (d : Dy G s M L H locs) {k idx : Nat} (hk : kd k = 7) (hl : (.fieldLink own idx "MownWords$Sheet" "length" "I" : Cond) ∈ UW) (hd : decode cc pc = .ok (.getfield idx, 3)) (kk : W p l e R s m args below meth c H locs cells slots Q (F0 m (pc + 3) ls (.int (M k 1) :: rest))) : W p l e R s m args below meth c H locs cells slots Q (F0 m pc ls (.ref (ad G k) :: rest)) :=
  r_get S d (k := k) (ci := 3) (f := 1) (C := RX3) (T := TX3) (N := 3) (ksdC S hk) (wc_7 hk) rfl fx_X3 (by decide) hl rfl hd kk
theorem pf_7_1 {p : Program} {l : Launch} {e : Env} {R : Room} {s : State} {m : MethodId} {args : Array Value} {below : List Frame} {meth : Method} {c : Code} {H : Heap} {locs : List Loc} {cells slots : Nat} {Q : State → Prop} {cc : ByteArray} {nL : Nat} {own : String} {pc : Nat} {ls : Array Slot} {rest : List Value} {G : Gx} {M : Mem} {L : MemL} (S : Sx G false p s m args meth c cc nL own) (d : Dy G s M L H locs) {k idx : Nat} {x : Int32} {M1 : Mem} (eM : M1 = up M k 1 x) (hk : kd k = 7) (hl : (.fieldLink own idx "MownWords$Sheet" "length" "I" : Cond) ∈ UW) (hd : decode cc pc = .ok (.putfield idx, 3)) (kk : ∀ (H1 : Heap) (locs1 : List Loc), Dy G s M1 L H1 locs1 → W p l e R s m args below meth c H1 locs1 cells slots Q (F0 m (pc + 3) ls rest)) : W p l e R s m args below meth c H locs cells slots Q (F0 m pc ls (.int x :: .ref (ad G k) :: rest)) :=
  r_put S d (k := k) (ci := 3) (f := 1) (C := RX3) (T := TX3) (ty0 := tyX3) (N := 3) (ty := .int) (ksdC S hk) (wc_7 hk) rfl fx_X3 tyX3_ok nmX3 (by decide) hl rfl rfl rfl rfl (by show 1 < 3; decide) hd (up_oth eM) (by rw [eM]; exact (wc_7 hk).trans (by simp [up])) kk
theorem gf_7_2 {p : Program} {l : Launch} {e : Env} {R : Room} {s : State} {m : MethodId} {args : Array Value} {below : List Frame} {meth : Method} {c : Code} {H : Heap} {locs : List Loc} {cells slots : Nat} {Q : State → Prop} {cc : ByteArray} {nL : Nat} {own : String} {pc : Nat} {ls : Array Slot} {rest : List Value} {G : Gx} {M : Mem} {L : MemL} (S : Sx G false p s m args meth c cc nL own) (d : Dy G s M L H locs) {k idx : Nat} (hk : kd k = 7) (hl : (.fieldLink own idx "MownWords$Sheet" "items" "[I" : Cond) ∈ UW) (hd : decode cc pc = .ok (.getfield idx, 3)) (kk : W p l e R s m args below meth c H locs cells slots Q (F0 m (pc + 3) ls (.ref (ad G (k + 1)) :: rest))) : W p l e R s m args below meth c H locs cells slots Q (F0 m pc ls (.ref (ad G k) :: rest)) :=
  r_get S d (k := k) (ci := 3) (f := 2) (C := RX3) (T := TX3) (N := 3) (ksdC S hk) (wc_7 hk) rfl fx_X3 (by decide) hl rfl hd kk
theorem gf_20_0 {p : Program} {l : Launch} {e : Env} {R : Room} {s : State} {m : MethodId} {args : Array Value} {below : List Frame} {meth : Method} {c : Code} {H : Heap} {locs : List Loc} {cells slots : Nat} {Q : State → Prop} {cc : ByteArray} {nL : Nat} {own : String} {pc : Nat} {ls : Array Slot} {rest : List Value} {G : Gx} {M : Mem} {L : MemL} (S : Sx G true p s m args meth c cc nL own) (d : Dy G s M L H locs) {k idx : Nat} (hk : kd k = 20) (hl : (.fieldLink own idx "MownWordsModel" "forms" "[I" : Cond) ∈ UW) (hd : decode cc pc = .ok (.getfield idx, 3)) (kk : W p l e R s m args below meth c H locs cells slots Q (F0 m (pc + 3) ls (.ref (ad G (k + 1)) :: rest))) : W p l e R s m args below meth c H locs cells slots Q (F0 m pc ls (.ref (ad G k) :: rest)) :=
  r_get S d (k := k) (ci := 9) (f := 0) (C := RX9) (T := TX9) (N := 27) (ksdM S hk) (wc_20 hk) rfl fx_X9 (by decide) hl rfl hd kk
theorem gf_20_1 {p : Program} {l : Launch} {e : Env} {R : Room} {s : State} {m : MethodId} {args : Array Value} {below : List Frame} {meth : Method} {c : Code} {H : Heap} {locs : List Loc} {cells slots : Nat} {Q : State → Prop} {cc : ByteArray} {nL : Nat} {own : String} {pc : Nat} {ls : Array Slot} {rest : List Value} {G : Gx} {M : Mem} {L : MemL} (S : Sx G true p s m args meth c cc nL own) (d : Dy G s M L H locs) {k idx : Nat} (hk : kd k = 20) (hl : (.fieldLink own idx "MownWordsModel" "owners" "[I" : Cond) ∈ UW) (hd : decode cc pc = .ok (.getfield idx, 3)) (kk : W p l e R s m args below meth c H locs cells slots Q (F0 m (pc + 3) ls (.ref (ad G (k + 2)) :: rest))) : W p l e R s m args below meth c H locs cells slots Q (F0 m pc ls (.ref (ad G k) :: rest)) :=
  r_get S d (k := k) (ci := 9) (f := 1) (C := RX9) (T := TX9) (N := 27) (ksdM S hk) (wc_20 hk) rfl fx_X9 (by decide) hl rfl hd kk
theorem gf_20_2 {p : Program} {l : Launch} {e : Env} {R : Room} {s : State} {m : MethodId} {args : Array Value} {below : List Frame} {meth : Method} {c : Code} {H : Heap} {locs : List Loc} {cells slots : Nat} {Q : State → Prop} {cc : ByteArray} {nL : Nat} {own : String} {pc : Nat} {ls : Array Slot} {rest : List Value} {G : Gx} {M : Mem} {L : MemL} (S : Sx G true p s m args meth c cc nL own) (d : Dy G s M L H locs) {k idx : Nat} (hk : kd k = 20) (hl : (.fieldLink own idx "MownWordsModel" "grass" "[I" : Cond) ∈ UW) (hd : decode cc pc = .ok (.getfield idx, 3)) (kk : W p l e R s m args below meth c H locs cells slots Q (F0 m (pc + 3) ls (.ref (ad G (k + 3)) :: rest))) : W p l e R s m args below meth c H locs cells slots Q (F0 m pc ls (.ref (ad G k) :: rest)) :=
  r_get S d (k := k) (ci := 9) (f := 2) (C := RX9) (T := TX9) (N := 27) (ksdM S hk) (wc_20 hk) rfl fx_X9 (by decide) hl rfl hd kk
theorem gf_20_3 {p : Program} {l : Launch} {e : Env} {R : Room} {s : State} {m : MethodId} {args : Array Value} {below : List Frame} {meth : Method} {c : Code} {H : Heap} {locs : List Loc} {cells slots : Nat} {Q : State → Prop} {cc : ByteArray} {nL : Nat} {own : String} {pc : Nat} {ls : Array Slot} {rest : List Value} {G : Gx} {M : Mem} {L : MemL} (S : Sx G true p s m args meth c cc nL own) (d : Dy G s M L H locs) {k idx : Nat} (hk : kd k = 20) (hl : (.fieldLink own idx "MownWordsModel" "hays" "[I" : Cond) ∈ UW) (hd : decode cc pc = .ok (.getfield idx, 3)) (kk : W p l e R s m args below meth c H locs cells slots Q (F0 m (pc + 3) ls (.ref (ad G (k + 4)) :: rest))) : W p l e R s m args below meth c H locs cells slots Q (F0 m pc ls (.ref (ad G k) :: rest)) :=
  r_get S d (k := k) (ci := 9) (f := 3) (C := RX9) (T := TX9) (N := 27) (ksdM S hk) (wc_20 hk) rfl fx_X9 (by decide) hl rfl hd kk
theorem gf_20_4 {p : Program} {l : Launch} {e : Env} {R : Room} {s : State} {m : MethodId} {args : Array Value} {below : List Frame} {meth : Method} {c : Code} {H : Heap} {locs : List Loc} {cells slots : Nat} {Q : State → Prop} {cc : ByteArray} {nL : Nat} {own : String} {pc : Nat} {ls : Array Slot} {rest : List Value} {G : Gx} {M : Mem} {L : MemL} (S : Sx G true p s m args meth c cc nL own) (d : Dy G s M L H locs) {k idx : Nat} (hk : kd k = 20) (hl : (.fieldLink own idx "MownWordsModel" "sets" "[I" : Cond) ∈ UW) (hd : decode cc pc = .ok (.getfield idx, 3)) (kk : W p l e R s m args below meth c H locs cells slots Q (F0 m (pc + 3) ls (.ref (ad G (k + 5)) :: rest))) : W p l e R s m args below meth c H locs cells slots Q (F0 m pc ls (.ref (ad G k) :: rest)) :=
  r_get S d (k := k) (ci := 9) (f := 4) (C := RX9) (T := TX9) (N := 27) (ksdM S hk) (wc_20 hk) rfl fx_X9 (by decide) hl rfl hd kk
theorem gf_20_5 {p : Program} {l : Launch} {e : Env} {R : Room} {s : State} {m : MethodId} {args : Array Value} {below : List Frame} {meth : Method} {c : Code} {H : Heap} {locs : List Loc} {cells slots : Nat} {Q : State → Prop} {cc : ByteArray} {nL : Nat} {own : String} {pc : Nat} {ls : Array Slot} {rest : List Value} {G : Gx} {M : Mem} {L : MemL} (S : Sx G true p s m args meth c cc nL own) (d : Dy G s M L H locs) {k idx : Nat} (hk : kd k = 20) (hl : (.fieldLink own idx "MownWordsModel" "feuds" "[I" : Cond) ∈ UW) (hd : decode cc pc = .ok (.getfield idx, 3)) (kk : W p l e R s m args below meth c H locs cells slots Q (F0 m (pc + 3) ls (.ref (ad G (k + 6)) :: rest))) : W p l e R s m args below meth c H locs cells slots Q (F0 m pc ls (.ref (ad G k) :: rest)) :=
  r_get S d (k := k) (ci := 9) (f := 5) (C := RX9) (T := TX9) (N := 27) (ksdM S hk) (wc_20 hk) rfl fx_X9 (by decide) hl rfl hd kk
theorem gf_20_6 {p : Program} {l : Launch} {e : Env} {R : Room} {s : State} {m : MethodId} {args : Array Value} {below : List Frame} {meth : Method} {c : Code} {H : Heap} {locs : List Loc} {cells slots : Nat} {Q : State → Prop} {cc : ByteArray} {nL : Nat} {own : String} {pc : Nat} {ls : Array Slot} {rest : List Value} {G : Gx} {M : Mem} {L : MemL} (S : Sx G true p s m args meth c cc nL own) (d : Dy G s M L H locs) {k idx : Nat} (hk : kd k = 20) (hl : (.fieldLink own idx "MownWordsModel" "words" "[I" : Cond) ∈ UW) (hd : decode cc pc = .ok (.getfield idx, 3)) (kk : W p l e R s m args below meth c H locs cells slots Q (F0 m (pc + 3) ls (.ref (ad G (k + 7)) :: rest))) : W p l e R s m args below meth c H locs cells slots Q (F0 m pc ls (.ref (ad G k) :: rest)) :=
  r_get S d (k := k) (ci := 9) (f := 6) (C := RX9) (T := TX9) (N := 27) (ksdM S hk) (wc_20 hk) rfl fx_X9 (by decide) hl rfl hd kk
theorem gf_20_7 {p : Program} {l : Launch} {e : Env} {R : Room} {s : State} {m : MethodId} {args : Array Value} {below : List Frame} {meth : Method} {c : Code} {H : Heap} {locs : List Loc} {cells slots : Nat} {Q : State → Prop} {cc : ByteArray} {nL : Nat} {own : String} {pc : Nat} {ls : Array Slot} {rest : List Value} {G : Gx} {M : Mem} {L : MemL} (S : Sx G true p s m args meth c cc nL own) (d : Dy G s M L H locs) {k idx : Nat} (hk : kd k = 20) (hl : (.fieldLink own idx "MownWordsModel" "strips" "I" : Cond) ∈ UW) (hd : decode cc pc = .ok (.getfield idx, 3)) (kk : W p l e R s m args below meth c H locs cells slots Q (F0 m (pc + 3) ls (.int (M k 7) :: rest))) : W p l e R s m args below meth c H locs cells slots Q (F0 m pc ls (.ref (ad G k) :: rest)) :=
  r_get S d (k := k) (ci := 9) (f := 7) (C := RX9) (T := TX9) (N := 27) (ksdM S hk) (wc_20 hk) rfl fx_X9 (by decide) hl rfl hd kk
theorem pf_20_7 {p : Program} {l : Launch} {e : Env} {R : Room} {s : State} {m : MethodId} {args : Array Value} {below : List Frame} {meth : Method} {c : Code} {H : Heap} {locs : List Loc} {cells slots : Nat} {Q : State → Prop} {cc : ByteArray} {nL : Nat} {own : String} {pc : Nat} {ls : Array Slot} {rest : List Value} {G : Gx} {M : Mem} {L : MemL} (S : Sx G true p s m args meth c cc nL own) (d : Dy G s M L H locs) {k idx : Nat} {x : Int32} {M1 : Mem} (eM : M1 = up M k 7 x) (hk : kd k = 20) (hl : (.fieldLink own idx "MownWordsModel" "strips" "I" : Cond) ∈ UW) (hd : decode cc pc = .ok (.putfield idx, 3)) (kk : ∀ (H1 : Heap) (locs1 : List Loc), Dy G s M1 L H1 locs1 → W p l e R s m args below meth c H1 locs1 cells slots Q (F0 m (pc + 3) ls rest)) : W p l e R s m args below meth c H locs cells slots Q (F0 m pc ls (.int x :: .ref (ad G k) :: rest)) :=
  r_put S d (k := k) (ci := 9) (f := 7) (C := RX9) (T := TX9) (ty0 := tyX9) (N := 27) (ty := .int) (ksdM S hk) (wc_20 hk) rfl fx_X9 tyX9_ok nmX9 (by decide) hl rfl rfl rfl rfl (by show 7 < 27; decide) hd (up_oth eM) (by rw [eM]; exact (wc_20 hk).trans (by simp [up])) kk
theorem gf_20_8 {p : Program} {l : Launch} {e : Env} {R : Room} {s : State} {m : MethodId} {args : Array Value} {below : List Frame} {meth : Method} {c : Code} {H : Heap} {locs : List Loc} {cells slots : Nat} {Q : State → Prop} {cc : ByteArray} {nL : Nat} {own : String} {pc : Nat} {ls : Array Slot} {rest : List Value} {G : Gx} {M : Mem} {L : MemL} (S : Sx G true p s m args meth c cc nL own) (d : Dy G s M L H locs) {k idx : Nat} (hk : kd k = 20) (hl : (.fieldLink own idx "MownWordsModel" "many" "I" : Cond) ∈ UW) (hd : decode cc pc = .ok (.getfield idx, 3)) (kk : W p l e R s m args below meth c H locs cells slots Q (F0 m (pc + 3) ls (.int (M k 8) :: rest))) : W p l e R s m args below meth c H locs cells slots Q (F0 m pc ls (.ref (ad G k) :: rest)) :=
  r_get S d (k := k) (ci := 9) (f := 8) (C := RX9) (T := TX9) (N := 27) (ksdM S hk) (wc_20 hk) rfl fx_X9 (by decide) hl rfl hd kk
theorem pf_20_8 {p : Program} {l : Launch} {e : Env} {R : Room} {s : State} {m : MethodId} {args : Array Value} {below : List Frame} {meth : Method} {c : Code} {H : Heap} {locs : List Loc} {cells slots : Nat} {Q : State → Prop} {cc : ByteArray} {nL : Nat} {own : String} {pc : Nat} {ls : Array Slot} {rest : List Value} {G : Gx} {M : Mem} {L : MemL} (S : Sx G true p s m args meth c cc nL own) (d : Dy G s M L H locs) {k idx : Nat} {x : Int32} {M1 : Mem} (eM : M1 = up M k 8 x) (hk : kd k = 20) (hl : (.fieldLink own idx "MownWordsModel" "many" "I" : Cond) ∈ UW) (hd : decode cc pc = .ok (.putfield idx, 3)) (kk : ∀ (H1 : Heap) (locs1 : List Loc), Dy G s M1 L H1 locs1 → W p l e R s m args below meth c H1 locs1 cells slots Q (F0 m (pc + 3) ls rest)) : W p l e R s m args below meth c H locs cells slots Q (F0 m pc ls (.int x :: .ref (ad G k) :: rest)) :=
  r_put S d (k := k) (ci := 9) (f := 8) (C := RX9) (T := TX9) (ty0 := tyX9) (N := 27) (ty := .int) (ksdM S hk) (wc_20 hk) rfl fx_X9 tyX9_ok nmX9 (by decide) hl rfl rfl rfl rfl (by show 8 < 27; decide) hd (up_oth eM) (by rw [eM]; exact (wc_20 hk).trans (by simp [up])) kk
theorem gf_20_9 {p : Program} {l : Launch} {e : Env} {R : Room} {s : State} {m : MethodId} {args : Array Value} {below : List Frame} {meth : Method} {c : Code} {H : Heap} {locs : List Loc} {cells slots : Nat} {Q : State → Prop} {cc : ByteArray} {nL : Nat} {own : String} {pc : Nat} {ls : Array Slot} {rest : List Value} {G : Gx} {M : Mem} {L : MemL} (S : Sx G true p s m args meth c cc nL own) (d : Dy G s M L H locs) {k idx : Nat} (hk : kd k = 20) (hl : (.fieldLink own idx "MownWordsModel" "tape" "[I" : Cond) ∈ UW) (hd : decode cc pc = .ok (.getfield idx, 3)) (kk : W p l e R s m args below meth c H locs cells slots Q (F0 m (pc + 3) ls (.ref (ad G (k + 8)) :: rest))) : W p l e R s m args below meth c H locs cells slots Q (F0 m pc ls (.ref (ad G k) :: rest)) :=
  r_get S d (k := k) (ci := 9) (f := 9) (C := RX9) (T := TX9) (N := 27) (ksdM S hk) (wc_20 hk) rfl fx_X9 (by decide) hl rfl hd kk
theorem gf_20_10 {p : Program} {l : Launch} {e : Env} {R : Room} {s : State} {m : MethodId} {args : Array Value} {below : List Frame} {meth : Method} {c : Code} {H : Heap} {locs : List Loc} {cells slots : Nat} {Q : State → Prop} {cc : ByteArray} {nL : Nat} {own : String} {pc : Nat} {ls : Array Slot} {rest : List Value} {G : Gx} {M : Mem} {L : MemL} (S : Sx G true p s m args meth c cc nL own) (d : Dy G s M L H locs) {k idx : Nat} (hk : kd k = 20) (hl : (.fieldLink own idx "MownWordsModel" "taped" "I" : Cond) ∈ UW) (hd : decode cc pc = .ok (.getfield idx, 3)) (kk : W p l e R s m args below meth c H locs cells slots Q (F0 m (pc + 3) ls (.int (M k 10) :: rest))) : W p l e R s m args below meth c H locs cells slots Q (F0 m pc ls (.ref (ad G k) :: rest)) :=
  r_get S d (k := k) (ci := 9) (f := 10) (C := RX9) (T := TX9) (N := 27) (ksdM S hk) (wc_20 hk) rfl fx_X9 (by decide) hl rfl hd kk
theorem pf_20_10 {p : Program} {l : Launch} {e : Env} {R : Room} {s : State} {m : MethodId} {args : Array Value} {below : List Frame} {meth : Method} {c : Code} {H : Heap} {locs : List Loc} {cells slots : Nat} {Q : State → Prop} {cc : ByteArray} {nL : Nat} {own : String} {pc : Nat} {ls : Array Slot} {rest : List Value} {G : Gx} {M : Mem} {L : MemL} (S : Sx G true p s m args meth c cc nL own) (d : Dy G s M L H locs) {k idx : Nat} {x : Int32} {M1 : Mem} (eM : M1 = up M k 10 x) (hk : kd k = 20) (hl : (.fieldLink own idx "MownWordsModel" "taped" "I" : Cond) ∈ UW) (hd : decode cc pc = .ok (.putfield idx, 3)) (kk : ∀ (H1 : Heap) (locs1 : List Loc), Dy G s M1 L H1 locs1 → W p l e R s m args below meth c H1 locs1 cells slots Q (F0 m (pc + 3) ls rest)) : W p l e R s m args below meth c H locs cells slots Q (F0 m pc ls (.int x :: .ref (ad G k) :: rest)) :=
  r_put S d (k := k) (ci := 9) (f := 10) (C := RX9) (T := TX9) (ty0 := tyX9) (N := 27) (ty := .int) (ksdM S hk) (wc_20 hk) rfl fx_X9 tyX9_ok nmX9 (by decide) hl rfl rfl rfl rfl (by show 10 < 27; decide) hd (up_oth eM) (by rw [eM]; exact (wc_20 hk).trans (by simp [up])) kk
theorem gf_20_11 {p : Program} {l : Launch} {e : Env} {R : Room} {s : State} {m : MethodId} {args : Array Value} {below : List Frame} {meth : Method} {c : Code} {H : Heap} {locs : List Loc} {cells slots : Nat} {Q : State → Prop} {cc : ByteArray} {nL : Nat} {own : String} {pc : Nat} {ls : Array Slot} {rest : List Value} {G : Gx} {M : Mem} {L : MemL} (S : Sx G true p s m args meth c cc nL own) (d : Dy G s M L H locs) {k idx : Nat} (hk : kd k = 20) (hl : (.fieldLink own idx "MownWordsModel" "place" "I" : Cond) ∈ UW) (hd : decode cc pc = .ok (.getfield idx, 3)) (kk : W p l e R s m args below meth c H locs cells slots Q (F0 m (pc + 3) ls (.int (M k 11) :: rest))) : W p l e R s m args below meth c H locs cells slots Q (F0 m pc ls (.ref (ad G k) :: rest)) :=
  r_get S d (k := k) (ci := 9) (f := 11) (C := RX9) (T := TX9) (N := 27) (ksdM S hk) (wc_20 hk) rfl fx_X9 (by decide) hl rfl hd kk
theorem pf_20_11 {p : Program} {l : Launch} {e : Env} {R : Room} {s : State} {m : MethodId} {args : Array Value} {below : List Frame} {meth : Method} {c : Code} {H : Heap} {locs : List Loc} {cells slots : Nat} {Q : State → Prop} {cc : ByteArray} {nL : Nat} {own : String} {pc : Nat} {ls : Array Slot} {rest : List Value} {G : Gx} {M : Mem} {L : MemL} (S : Sx G true p s m args meth c cc nL own) (d : Dy G s M L H locs) {k idx : Nat} {x : Int32} {M1 : Mem} (eM : M1 = up M k 11 x) (hk : kd k = 20) (hl : (.fieldLink own idx "MownWordsModel" "place" "I" : Cond) ∈ UW) (hd : decode cc pc = .ok (.putfield idx, 3)) (kk : ∀ (H1 : Heap) (locs1 : List Loc), Dy G s M1 L H1 locs1 → W p l e R s m args below meth c H1 locs1 cells slots Q (F0 m (pc + 3) ls rest)) : W p l e R s m args below meth c H locs cells slots Q (F0 m pc ls (.int x :: .ref (ad G k) :: rest)) :=
  r_put S d (k := k) (ci := 9) (f := 11) (C := RX9) (T := TX9) (ty0 := tyX9) (N := 27) (ty := .int) (ksdM S hk) (wc_20 hk) rfl fx_X9 tyX9_ok nmX9 (by decide) hl rfl rfl rfl rfl (by show 11 < 27; decide) hd (up_oth eM) (by rw [eM]; exact (wc_20 hk).trans (by simp [up])) kk
theorem gf_20_12 {p : Program} {l : Launch} {e : Env} {R : Room} {s : State} {m : MethodId} {args : Array Value} {below : List Frame} {meth : Method} {c : Code} {H : Heap} {locs : List Loc} {cells slots : Nat} {Q : State → Prop} {cc : ByteArray} {nL : Nat} {own : String} {pc : Nat} {ls : Array Slot} {rest : List Value} {G : Gx} {M : Mem} {L : MemL} (S : Sx G true p s m args meth c cc nL own) (d : Dy G s M L H locs) {k idx : Nat} (hk : kd k = 20) (hl : (.fieldLink own idx "MownWordsModel" "reads" "I" : Cond) ∈ UW) (hd : decode cc pc = .ok (.getfield idx, 3)) (kk : W p l e R s m args below meth c H locs cells slots Q (F0 m (pc + 3) ls (.int (M k 12) :: rest))) : W p l e R s m args below meth c H locs cells slots Q (F0 m pc ls (.ref (ad G k) :: rest)) :=
  r_get S d (k := k) (ci := 9) (f := 12) (C := RX9) (T := TX9) (N := 27) (ksdM S hk) (wc_20 hk) rfl fx_X9 (by decide) hl rfl hd kk
theorem pf_20_12 {p : Program} {l : Launch} {e : Env} {R : Room} {s : State} {m : MethodId} {args : Array Value} {below : List Frame} {meth : Method} {c : Code} {H : Heap} {locs : List Loc} {cells slots : Nat} {Q : State → Prop} {cc : ByteArray} {nL : Nat} {own : String} {pc : Nat} {ls : Array Slot} {rest : List Value} {G : Gx} {M : Mem} {L : MemL} (S : Sx G true p s m args meth c cc nL own) (d : Dy G s M L H locs) {k idx : Nat} {x : Int32} {M1 : Mem} (eM : M1 = up M k 12 x) (hk : kd k = 20) (hl : (.fieldLink own idx "MownWordsModel" "reads" "I" : Cond) ∈ UW) (hd : decode cc pc = .ok (.putfield idx, 3)) (kk : ∀ (H1 : Heap) (locs1 : List Loc), Dy G s M1 L H1 locs1 → W p l e R s m args below meth c H1 locs1 cells slots Q (F0 m (pc + 3) ls rest)) : W p l e R s m args below meth c H locs cells slots Q (F0 m pc ls (.int x :: .ref (ad G k) :: rest)) :=
  r_put S d (k := k) (ci := 9) (f := 12) (C := RX9) (T := TX9) (ty0 := tyX9) (N := 27) (ty := .int) (ksdM S hk) (wc_20 hk) rfl fx_X9 tyX9_ok nmX9 (by decide) hl rfl rfl rfl rfl (by show 12 < 27; decide) hd (up_oth eM) (by rw [eM]; exact (wc_20 hk).trans (by simp [up])) kk
theorem gf_20_13 {p : Program} {l : Launch} {e : Env} {R : Room} {s : State} {m : MethodId} {args : Array Value} {below : List Frame} {meth : Method} {c : Code} {H : Heap} {locs : List Loc} {cells slots : Nat} {Q : State → Prop} {cc : ByteArray} {nL : Nat} {own : String} {pc : Nat} {ls : Array Slot} {rest : List Value} {G : Gx} {M : Mem} {L : MemL} (S : Sx G true p s m args meth c cc nL own) (d : Dy G s M L H locs) {k idx : Nat} (hk : kd k = 20) (hl : (.fieldLink own idx "MownWordsModel" "read" "[I" : Cond) ∈ UW) (hd : decode cc pc = .ok (.getfield idx, 3)) (kk : W p l e R s m args below meth c H locs cells slots Q (F0 m (pc + 3) ls (.ref (ad G (k + 9)) :: rest))) : W p l e R s m args below meth c H locs cells slots Q (F0 m pc ls (.ref (ad G k) :: rest)) :=
  r_get S d (k := k) (ci := 9) (f := 13) (C := RX9) (T := TX9) (N := 27) (ksdM S hk) (wc_20 hk) rfl fx_X9 (by decide) hl rfl hd kk
theorem gf_20_14 {p : Program} {l : Launch} {e : Env} {R : Room} {s : State} {m : MethodId} {args : Array Value} {below : List Frame} {meth : Method} {c : Code} {H : Heap} {locs : List Loc} {cells slots : Nat} {Q : State → Prop} {cc : ByteArray} {nL : Nat} {own : String} {pc : Nat} {ls : Array Slot} {rest : List Value} {G : Gx} {M : Mem} {L : MemL} (S : Sx G true p s m args meth c cc nL own) (d : Dy G s M L H locs) {k idx : Nat} (hk : kd k = 20) (hl : (.fieldLink own idx "MownWordsModel" "best" "[I" : Cond) ∈ UW) (hd : decode cc pc = .ok (.getfield idx, 3)) (kk : W p l e R s m args below meth c H locs cells slots Q (F0 m (pc + 3) ls (.ref (ad G (k + 10)) :: rest))) : W p l e R s m args below meth c H locs cells slots Q (F0 m pc ls (.ref (ad G k) :: rest)) :=
  r_get S d (k := k) (ci := 9) (f := 14) (C := RX9) (T := TX9) (N := 27) (ksdM S hk) (wc_20 hk) rfl fx_X9 (by decide) hl rfl hd kk
theorem gf_20_15 {p : Program} {l : Launch} {e : Env} {R : Room} {s : State} {m : MethodId} {args : Array Value} {below : List Frame} {meth : Method} {c : Code} {H : Heap} {locs : List Loc} {cells slots : Nat} {Q : State → Prop} {cc : ByteArray} {nL : Nat} {own : String} {pc : Nat} {ls : Array Slot} {rest : List Value} {G : Gx} {M : Mem} {L : MemL} (S : Sx G true p s m args meth c cc nL own) (d : Dy G s M L H locs) {k idx : Nat} (hk : kd k = 20) (hl : (.fieldLink own idx "MownWordsModel" "row" "[I" : Cond) ∈ UW) (hd : decode cc pc = .ok (.getfield idx, 3)) (kk : W p l e R s m args below meth c H locs cells slots Q (F0 m (pc + 3) ls (.ref (ad G (k + 11)) :: rest))) : W p l e R s m args below meth c H locs cells slots Q (F0 m pc ls (.ref (ad G k) :: rest)) :=
  r_get S d (k := k) (ci := 9) (f := 15) (C := RX9) (T := TX9) (N := 27) (ksdM S hk) (wc_20 hk) rfl fx_X9 (by decide) hl rfl hd kk
theorem gf_20_16 {p : Program} {l : Launch} {e : Env} {R : Room} {s : State} {m : MethodId} {args : Array Value} {below : List Frame} {meth : Method} {c : Code} {H : Heap} {locs : List Loc} {cells slots : Nat} {Q : State → Prop} {cc : ByteArray} {nL : Nat} {own : String} {pc : Nat} {ls : Array Slot} {rest : List Value} {G : Gx} {M : Mem} {L : MemL} (S : Sx G true p s m args meth c cc nL own) (d : Dy G s M L H locs) {k idx : Nat} (hk : kd k = 20) (hl : (.fieldLink own idx "MownWordsModel" "rowSize" "I" : Cond) ∈ UW) (hd : decode cc pc = .ok (.getfield idx, 3)) (kk : W p l e R s m args below meth c H locs cells slots Q (F0 m (pc + 3) ls (.int (M k 16) :: rest))) : W p l e R s m args below meth c H locs cells slots Q (F0 m pc ls (.ref (ad G k) :: rest)) :=
  r_get S d (k := k) (ci := 9) (f := 16) (C := RX9) (T := TX9) (N := 27) (ksdM S hk) (wc_20 hk) rfl fx_X9 (by decide) hl rfl hd kk
theorem pf_20_16 {p : Program} {l : Launch} {e : Env} {R : Room} {s : State} {m : MethodId} {args : Array Value} {below : List Frame} {meth : Method} {c : Code} {H : Heap} {locs : List Loc} {cells slots : Nat} {Q : State → Prop} {cc : ByteArray} {nL : Nat} {own : String} {pc : Nat} {ls : Array Slot} {rest : List Value} {G : Gx} {M : Mem} {L : MemL} (S : Sx G true p s m args meth c cc nL own) (d : Dy G s M L H locs) {k idx : Nat} {x : Int32} {M1 : Mem} (eM : M1 = up M k 16 x) (hk : kd k = 20) (hl : (.fieldLink own idx "MownWordsModel" "rowSize" "I" : Cond) ∈ UW) (hd : decode cc pc = .ok (.putfield idx, 3)) (kk : ∀ (H1 : Heap) (locs1 : List Loc), Dy G s M1 L H1 locs1 → W p l e R s m args below meth c H1 locs1 cells slots Q (F0 m (pc + 3) ls rest)) : W p l e R s m args below meth c H locs cells slots Q (F0 m pc ls (.int x :: .ref (ad G k) :: rest)) :=
  r_put S d (k := k) (ci := 9) (f := 16) (C := RX9) (T := TX9) (ty0 := tyX9) (N := 27) (ty := .int) (ksdM S hk) (wc_20 hk) rfl fx_X9 tyX9_ok nmX9 (by decide) hl rfl rfl rfl rfl (by show 16 < 27; decide) hd (up_oth eM) (by rw [eM]; exact (wc_20 hk).trans (by simp [up])) kk
theorem gf_20_17 {p : Program} {l : Launch} {e : Env} {R : Room} {s : State} {m : MethodId} {args : Array Value} {below : List Frame} {meth : Method} {c : Code} {H : Heap} {locs : List Loc} {cells slots : Nat} {Q : State → Prop} {cc : ByteArray} {nL : Nat} {own : String} {pc : Nat} {ls : Array Slot} {rest : List Value} {G : Gx} {M : Mem} {L : MemL} (S : Sx G true p s m args meth c cc nL own) (d : Dy G s M L H locs) {k idx : Nat} (hk : kd k = 20) (hl : (.fieldLink own idx "MownWordsModel" "lies" "[I" : Cond) ∈ UW) (hd : decode cc pc = .ok (.getfield idx, 3)) (kk : W p l e R s m args below meth c H locs cells slots Q (F0 m (pc + 3) ls (.ref (ad G (k + 12)) :: rest))) : W p l e R s m args below meth c H locs cells slots Q (F0 m pc ls (.ref (ad G k) :: rest)) :=
  r_get S d (k := k) (ci := 9) (f := 17) (C := RX9) (T := TX9) (N := 27) (ksdM S hk) (wc_20 hk) rfl fx_X9 (by decide) hl rfl hd kk
theorem gf_20_18 {p : Program} {l : Launch} {e : Env} {R : Room} {s : State} {m : MethodId} {args : Array Value} {below : List Frame} {meth : Method} {c : Code} {H : Heap} {locs : List Loc} {cells slots : Nat} {Q : State → Prop} {cc : ByteArray} {nL : Nat} {own : String} {pc : Nat} {ls : Array Slot} {rest : List Value} {G : Gx} {M : Mem} {L : MemL} (S : Sx G true p s m args meth c cc nL own) (d : Dy G s M L H locs) {k idx : Nat} (hk : kd k = 20) (hl : (.fieldLink own idx "MownWordsModel" "worths" "[I" : Cond) ∈ UW) (hd : decode cc pc = .ok (.getfield idx, 3)) (kk : W p l e R s m args below meth c H locs cells slots Q (F0 m (pc + 3) ls (.ref (ad G (k + 13)) :: rest))) : W p l e R s m args below meth c H locs cells slots Q (F0 m pc ls (.ref (ad G k) :: rest)) :=
  r_get S d (k := k) (ci := 9) (f := 18) (C := RX9) (T := TX9) (N := 27) (ksdM S hk) (wc_20 hk) rfl fx_X9 (by decide) hl rfl hd kk
theorem gf_20_19 {p : Program} {l : Launch} {e : Env} {R : Room} {s : State} {m : MethodId} {args : Array Value} {below : List Frame} {meth : Method} {c : Code} {H : Heap} {locs : List Loc} {cells slots : Nat} {Q : State → Prop} {cc : ByteArray} {nL : Nat} {own : String} {pc : Nat} {ls : Array Slot} {rest : List Value} {G : Gx} {M : Mem} {L : MemL} (S : Sx G true p s m args meth c cc nL own) (d : Dy G s M L H locs) {k idx : Nat} (hk : kd k = 20) (hl : (.fieldLink own idx "MownWordsModel" "odds" "[J" : Cond) ∈ UW) (hd : decode cc pc = .ok (.getfield idx, 3)) (kk : W p l e R s m args below meth c H locs cells slots Q (F0 m (pc + 3) ls (.ref (ad G (k + 14)) :: rest))) : W p l e R s m args below meth c H locs cells slots Q (F0 m pc ls (.ref (ad G k) :: rest)) :=
  r_get S d (k := k) (ci := 9) (f := 19) (C := RX9) (T := TX9) (N := 27) (ksdM S hk) (wc_20 hk) rfl fx_X9 (by decide) hl rfl hd kk
theorem gf_20_20 {p : Program} {l : Launch} {e : Env} {R : Room} {s : State} {m : MethodId} {args : Array Value} {below : List Frame} {meth : Method} {c : Code} {H : Heap} {locs : List Loc} {cells slots : Nat} {Q : State → Prop} {cc : ByteArray} {nL : Nat} {own : String} {pc : Nat} {ls : Array Slot} {rest : List Value} {G : Gx} {M : Mem} {L : MemL} (S : Sx G true p s m args meth c cc nL own) (d : Dy G s M L H locs) {k idx : Nat} (hk : kd k = 20) (hl : (.fieldLink own idx "MownWordsModel" "had" "[I" : Cond) ∈ UW) (hd : decode cc pc = .ok (.getfield idx, 3)) (kk : W p l e R s m args below meth c H locs cells slots Q (F0 m (pc + 3) ls (.ref (ad G (k + 15)) :: rest))) : W p l e R s m args below meth c H locs cells slots Q (F0 m pc ls (.ref (ad G k) :: rest)) :=
  r_get S d (k := k) (ci := 9) (f := 20) (C := RX9) (T := TX9) (N := 27) (ksdM S hk) (wc_20 hk) rfl fx_X9 (by decide) hl rfl hd kk
theorem gf_20_21 {p : Program} {l : Launch} {e : Env} {R : Room} {s : State} {m : MethodId} {args : Array Value} {below : List Frame} {meth : Method} {c : Code} {H : Heap} {locs : List Loc} {cells slots : Nat} {Q : State → Prop} {cc : ByteArray} {nL : Nat} {own : String} {pc : Nat} {ls : Array Slot} {rest : List Value} {G : Gx} {M : Mem} {L : MemL} (S : Sx G true p s m args meth c cc nL own) (d : Dy G s M L H locs) {k idx : Nat} (hk : kd k = 20) (hl : (.fieldLink own idx "MownWordsModel" "isKept" "Z" : Cond) ∈ UW) (hd : decode cc pc = .ok (.getfield idx, 3)) (kk : W p l e R s m args below meth c H locs cells slots Q (F0 m (pc + 3) ls (.int (M k 21) :: rest))) : W p l e R s m args below meth c H locs cells slots Q (F0 m pc ls (.ref (ad G k) :: rest)) :=
  r_get S d (k := k) (ci := 9) (f := 21) (C := RX9) (T := TX9) (N := 27) (ksdM S hk) (wc_20 hk) rfl fx_X9 (by decide) hl rfl hd kk
theorem pf_20_21 {p : Program} {l : Launch} {e : Env} {R : Room} {s : State} {m : MethodId} {args : Array Value} {below : List Frame} {meth : Method} {c : Code} {H : Heap} {locs : List Loc} {cells slots : Nat} {Q : State → Prop} {cc : ByteArray} {nL : Nat} {own : String} {pc : Nat} {ls : Array Slot} {rest : List Value} {G : Gx} {M : Mem} {L : MemL} (S : Sx G true p s m args meth c cc nL own) (d : Dy G s M L H locs) {k idx : Nat} {x : Int32} {M1 : Mem} (eM : M1 = up M k 21 x) (hz : x = 0 ∨ x = 1) (hk : kd k = 20) (hl : (.fieldLink own idx "MownWordsModel" "isKept" "Z" : Cond) ∈ UW) (hd : decode cc pc = .ok (.putfield idx, 3)) (kk : ∀ (H1 : Heap) (locs1 : List Loc), Dy G s M1 L H1 locs1 → W p l e R s m args below meth c H1 locs1 cells slots Q (F0 m (pc + 3) ls rest)) : W p l e R s m args below meth c H locs cells slots Q (F0 m pc ls (.int x :: .ref (ad G k) :: rest)) :=
  r_put S d (k := k) (ci := 9) (f := 21) (C := RX9) (T := TX9) (ty0 := tyX9) (N := 27) (ty := .boolean) (ksdM S hk) (wc_20 hk) rfl fx_X9 tyX9_ok nmX9 (by decide) hl rfl rfl (by rcases hz with rfl | rfl <;> rfl) (by rcases hz with rfl | rfl <;> rfl) (by show 21 < 27; decide) hd (up_oth eM) (by rw [eM]; exact (wc_20 hk).trans (by simp [up])) kk
theorem gf_20_22 {p : Program} {l : Launch} {e : Env} {R : Room} {s : State} {m : MethodId} {args : Array Value} {below : List Frame} {meth : Method} {c : Code} {H : Heap} {locs : List Loc} {cells slots : Nat} {Q : State → Prop} {cc : ByteArray} {nL : Nat} {own : String} {pc : Nat} {ls : Array Slot} {rest : List Value} {G : Gx} {M : Mem} {L : MemL} (S : Sx G true p s m args meth c cc nL own) (d : Dy G s M L H locs) {k idx : Nat} (hk : kd k = 20) (hl : (.fieldLink own idx "MownWordsModel" "kept" "[I" : Cond) ∈ UW) (hd : decode cc pc = .ok (.getfield idx, 3)) (kk : W p l e R s m args below meth c H locs cells slots Q (F0 m (pc + 3) ls (.ref (ad G (k + 16)) :: rest))) : W p l e R s m args below meth c H locs cells slots Q (F0 m pc ls (.ref (ad G k) :: rest)) :=
  r_get S d (k := k) (ci := 9) (f := 22) (C := RX9) (T := TX9) (N := 27) (ksdM S hk) (wc_20 hk) rfl fx_X9 (by decide) hl rfl hd kk
theorem gf_20_23 {p : Program} {l : Launch} {e : Env} {R : Room} {s : State} {m : MethodId} {args : Array Value} {below : List Frame} {meth : Method} {c : Code} {H : Heap} {locs : List Loc} {cells slots : Nat} {Q : State → Prop} {cc : ByteArray} {nL : Nat} {own : String} {pc : Nat} {ls : Array Slot} {rest : List Value} {G : Gx} {M : Mem} {L : MemL} (S : Sx G true p s m args meth c cc nL own) (d : Dy G s M L H locs) {k idx : Nat} (hk : kd k = 20) (hl : (.fieldLink own idx "MownWordsModel" "keptMany" "[I" : Cond) ∈ UW) (hd : decode cc pc = .ok (.getfield idx, 3)) (kk : W p l e R s m args below meth c H locs cells slots Q (F0 m (pc + 3) ls (.ref (ad G (k + 17)) :: rest))) : W p l e R s m args below meth c H locs cells slots Q (F0 m pc ls (.ref (ad G k) :: rest)) :=
  r_get S d (k := k) (ci := 9) (f := 23) (C := RX9) (T := TX9) (N := 27) (ksdM S hk) (wc_20 hk) rfl fx_X9 (by decide) hl rfl hd kk
theorem gf_20_24 {p : Program} {l : Launch} {e : Env} {R : Room} {s : State} {m : MethodId} {args : Array Value} {below : List Frame} {meth : Method} {c : Code} {H : Heap} {locs : List Loc} {cells slots : Nat} {Q : State → Prop} {cc : ByteArray} {nL : Nat} {own : String} {pc : Nat} {ls : Array Slot} {rest : List Value} {G : Gx} {M : Mem} {L : MemL} (S : Sx G true p s m args meth c cc nL own) (d : Dy G s M L H locs) {k idx : Nat} (hk : kd k = 20) (hl : (.fieldLink own idx "MownWordsModel" "lanes" "[I" : Cond) ∈ UW) (hd : decode cc pc = .ok (.getfield idx, 3)) (kk : W p l e R s m args below meth c H locs cells slots Q (F0 m (pc + 3) ls (.ref (ad G (k + 18)) :: rest))) : W p l e R s m args below meth c H locs cells slots Q (F0 m pc ls (.ref (ad G k) :: rest)) :=
  r_get S d (k := k) (ci := 9) (f := 24) (C := RX9) (T := TX9) (N := 27) (ksdM S hk) (wc_20 hk) rfl fx_X9 (by decide) hl rfl hd kk
theorem gf_20_25 {p : Program} {l : Launch} {e : Env} {R : Room} {s : State} {m : MethodId} {args : Array Value} {below : List Frame} {meth : Method} {c : Code} {H : Heap} {locs : List Loc} {cells slots : Nat} {Q : State → Prop} {cc : ByteArray} {nL : Nat} {own : String} {pc : Nat} {ls : Array Slot} {rest : List Value} {G : Gx} {M : Mem} {L : MemL} (S : Sx G true p s m args meth c cc nL own) (d : Dy G s M L H locs) {k idx : Nat} (hk : kd k = 20) (hl : (.fieldLink own idx "MownWordsModel" "rowSizes" "[I" : Cond) ∈ UW) (hd : decode cc pc = .ok (.getfield idx, 3)) (kk : W p l e R s m args below meth c H locs cells slots Q (F0 m (pc + 3) ls (.ref (ad G (k + 19)) :: rest))) : W p l e R s m args below meth c H locs cells slots Q (F0 m pc ls (.ref (ad G k) :: rest)) :=
  r_get S d (k := k) (ci := 9) (f := 25) (C := RX9) (T := TX9) (N := 27) (ksdM S hk) (wc_20 hk) rfl fx_X9 (by decide) hl rfl hd kk
theorem gf_20_26 {p : Program} {l : Launch} {e : Env} {R : Room} {s : State} {m : MethodId} {args : Array Value} {below : List Frame} {meth : Method} {c : Code} {H : Heap} {locs : List Loc} {cells slots : Nat} {Q : State → Prop} {cc : ByteArray} {nL : Nat} {own : String} {pc : Nat} {ls : Array Slot} {rest : List Value} {G : Gx} {M : Mem} {L : MemL} (S : Sx G true p s m args meth c cc nL own) (d : Dy G s M L H locs) {k idx : Nat} (hk : kd k = 20) (hl : (.fieldLink own idx "MownWordsModel" "items" "[I" : Cond) ∈ UW) (hd : decode cc pc = .ok (.getfield idx, 3)) (kk : W p l e R s m args below meth c H locs cells slots Q (F0 m (pc + 3) ls (.ref (ad G (k + 20)) :: rest))) : W p l e R s m args below meth c H locs cells slots Q (F0 m pc ls (.ref (ad G k) :: rest)) :=
  r_get S d (k := k) (ci := 9) (f := 26) (C := RX9) (T := TX9) (N := 27) (ksdM S hk) (wc_20 hk) rfl fx_X9 (by decide) hl rfl hd kk
end
