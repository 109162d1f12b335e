theorem dX0_init_0 : decode cX0_init 0 = .ok (.aload_n 0, 1) := by decide +kernel
theorem dX0_init_1 : decode cX0_init 1 = .ok (.invokespecial 3, 3) := by decide +kernel
theorem dX0_init_4 : decode cX0_init 4 = .ok (.aload_n 0, 1) := by decide +kernel
theorem dX0_init_5 : decode cX0_init 5 = .ok (.getstatic 9, 3) := by decide +kernel
theorem dX0_init_8 : decode cX0_init 8 = .ok (.arraylength, 1) := by decide +kernel
theorem dX0_init_9 : decode cX0_init 9 = .ok (.newarray .int, 2) := by decide +kernel
theorem dX0_init_11 : decode cX0_init 11 = .ok (.putfield 13, 3) := by decide +kernel
theorem dX0_init_14 : decode cX0_init 14 = .ok (.aload_n 0, 1) := by decide +kernel
theorem dX0_init_15 : decode cX0_init 15 = .ok (.bipush 9, 2) := by decide +kernel
theorem dX0_init_17 : decode cX0_init 17 = .ok (.anewarray 18, 3) := by decide +kernel
theorem dX0_init_20 : decode cX0_init 20 = .ok (.putfield 20, 3) := by decide +kernel
theorem dX0_init_23 : decode cX0_init 23 = .ok (.aload_n 0, 1) := by decide +kernel
theorem dX0_init_24 : decode cX0_init 24 = .ok (.iconst 0, 1) := by decide +kernel
theorem dX0_init_25 : decode cX0_init 25 = .ok (.putfield 24, 3) := by decide +kernel
theorem dX0_init_28 : decode cX0_init 28 = .ok (.aload_n 0, 1) := by decide +kernel
theorem dX0_init_29 : decode cX0_init 29 = .ok (.bipush 10, 2) := by decide +kernel
theorem dX0_init_31 : decode cX0_init 31 = .ok (.anewarray 28, 3) := by decide +kernel
theorem dX0_init_34 : decode cX0_init 34 = .ok (.putfield 30, 3) := by decide +kernel
theorem dX0_init_37 : decode cX0_init 37 = .ok (.aload_n 0, 1) := by decide +kernel
theorem dX0_init_38 : decode cX0_init 38 = .ok (.iconst 0, 1) := by decide +kernel
theorem dX0_init_39 : decode cX0_init 39 = .ok (.putfield 34, 3) := by decide +kernel
theorem dX0_init_42 : decode cX0_init 42 = .ok (.aload_n 0, 1) := by decide +kernel
theorem dX0_init_43 : decode cX0_init 43 = .ok (.bipush 6, 2) := by decide +kernel
theorem dX0_init_45 : decode cX0_init 45 = .ok (.newarray .int, 2) := by decide +kernel
theorem dX0_init_47 : decode cX0_init 47 = .ok (.putfield 37, 3) := by decide +kernel
theorem dX0_init_50 : decode cX0_init 50 = .ok (.aload_n 0, 1) := by decide +kernel
theorem dX0_init_51 : decode cX0_init 51 = .ok (.bipush 6, 2) := by decide +kernel
theorem dX0_init_53 : decode cX0_init 53 = .ok (.newarray .int, 2) := by decide +kernel
theorem dX0_init_55 : decode cX0_init 55 = .ok (.putfield 40, 3) := by decide +kernel
theorem dX0_init_58 : decode cX0_init 58 = .ok (.getstatic 9, 3) := by decide +kernel
theorem dX0_init_61 : decode cX0_init 61 = .ok (.iconst 0, 1) := by decide +kernel
theorem dX0_init_62 : decode cX0_init 62 = .ok (.aload_n 0, 1) := by decide +kernel
theorem dX0_init_63 : decode cX0_init 63 = .ok (.getfield 13, 3) := by decide +kernel
theorem dX0_init_66 : decode cX0_init 66 = .ok (.iconst 0, 1) := by decide +kernel
theorem dX0_init_67 : decode cX0_init 67 = .ok (.getstatic 9, 3) := by decide +kernel
theorem dX0_init_70 : decode cX0_init 70 = .ok (.arraylength, 1) := by decide +kernel
theorem dX0_init_71 : decode cX0_init 71 = .ok (.invokestatic 43, 3) := by decide +kernel
theorem dX0_init_74 : decode cX0_init 74 = .ok (.iconst 0, 1) := by decide +kernel
theorem dX0_init_75 : decode cX0_init 75 = .ok (.istore_n 1, 1) := by decide +kernel
theorem dX0_init_76 : decode cX0_init 76 = .ok (.iload_n 1, 1) := by decide +kernel
theorem dX0_init_77 : decode cX0_init 77 = .ok (.bipush 9, 2) := by decide +kernel
theorem dX0_init_79 : decode cX0_init 79 = .ok (.if_icmp .ge 22, 3) := by decide +kernel
theorem dX0_init_82 : decode cX0_init 82 = .ok (.aload_n 0, 1) := by decide +kernel
theorem dX0_init_83 : decode cX0_init 83 = .ok (.getfield 20, 3) := by decide +kernel
theorem dX0_init_86 : decode cX0_init 86 = .ok (.iload_n 1, 1) := by decide +kernel
theorem dX0_init_87 : decode cX0_init 87 = .ok (.new 18, 3) := by decide +kernel
theorem dX0_init_90 : decode cX0_init 90 = .ok (.dup, 1) := by decide +kernel
theorem dX0_init_91 : decode cX0_init 91 = .ok (.invokespecial 49, 3) := by decide +kernel
theorem dX0_init_94 : decode cX0_init 94 = .ok (.aastore, 1) := by decide +kernel
theorem dX0_init_95 : decode cX0_init 95 = .ok (.iinc 1 1, 3) := by decide +kernel
theorem dX0_init_98 : decode cX0_init 98 = .ok (.goto (-22), 3) := by decide +kernel
theorem dX0_init_101 : decode cX0_init 101 = .ok (.iconst 0, 1) := by decide +kernel
theorem dX0_init_102 : decode cX0_init 102 = .ok (.istore_n 1, 1) := by decide +kernel
theorem dX0_init_103 : decode cX0_init 103 = .ok (.iload_n 1, 1) := by decide +kernel
theorem dX0_init_104 : decode cX0_init 104 = .ok (.bipush 10, 2) := by decide +kernel
theorem dX0_init_106 : decode cX0_init 106 = .ok (.if_icmp .ge 22, 3) := by decide +kernel
theorem dX0_init_109 : decode cX0_init 109 = .ok (.aload_n 0, 1) := by decide +kernel
theorem dX0_init_110 : decode cX0_init 110 = .ok (.getfield 30, 3) := by decide +kernel
theorem dX0_init_113 : decode cX0_init 113 = .ok (.iload_n 1, 1) := by decide +kernel
theorem dX0_init_114 : decode cX0_init 114 = .ok (.new 28, 3) := by decide +kernel
theorem dX0_init_117 : decode cX0_init 117 = .ok (.dup, 1) := by decide +kernel
theorem dX0_init_118 : decode cX0_init 118 = .ok (.invokespecial 50, 3) := by decide +kernel
theorem dX0_init_121 : decode cX0_init 121 = .ok (.aastore, 1) := by decide +kernel
theorem dX0_init_122 : decode cX0_init 122 = .ok (.iinc 1 1, 3) := by decide +kernel
theorem dX0_init_125 : decode cX0_init 125 = .ok (.goto (-22), 3) := by decide +kernel
theorem dX0_init_128 : decode cX0_init 128 = .ok (.return_, 1) := by decide +kernel
theorem dX0_copyFrom_0 : decode cX0_copyFrom 0 = .ok (.aload_n 1, 1) := by decide +kernel
theorem dX0_copyFrom_1 : decode cX0_copyFrom 1 = .ok (.getfield 13, 3) := by decide +kernel
theorem dX0_copyFrom_4 : decode cX0_copyFrom 4 = .ok (.iconst 0, 1) := by decide +kernel
theorem dX0_copyFrom_5 : decode cX0_copyFrom 5 = .ok (.aload_n 0, 1) := by decide +kernel
theorem dX0_copyFrom_6 : decode cX0_copyFrom 6 = .ok (.getfield 13, 3) := by decide +kernel
theorem dX0_copyFrom_9 : decode cX0_copyFrom 9 = .ok (.iconst 0, 1) := by decide +kernel
theorem dX0_copyFrom_10 : decode cX0_copyFrom 10 = .ok (.getstatic 9, 3) := by decide +kernel
theorem dX0_copyFrom_13 : decode cX0_copyFrom 13 = .ok (.arraylength, 1) := by decide +kernel
theorem dX0_copyFrom_14 : decode cX0_copyFrom 14 = .ok (.invokestatic 43, 3) := by decide +kernel
theorem dX0_copyFrom_17 : decode cX0_copyFrom 17 = .ok (.aload_n 1, 1) := by decide +kernel
theorem dX0_copyFrom_18 : decode cX0_copyFrom 18 = .ok (.getfield 37, 3) := by decide +kernel
theorem dX0_copyFrom_21 : decode cX0_copyFrom 21 = .ok (.iconst 0, 1) := by decide +kernel
theorem dX0_copyFrom_22 : decode cX0_copyFrom 22 = .ok (.aload_n 0, 1) := by decide +kernel
theorem dX0_copyFrom_23 : decode cX0_copyFrom 23 = .ok (.getfield 37, 3) := by decide +kernel
theorem dX0_copyFrom_26 : decode cX0_copyFrom 26 = .ok (.iconst 0, 1) := by decide +kernel
theorem dX0_copyFrom_27 : decode cX0_copyFrom 27 = .ok (.bipush 6, 2) := by decide +kernel
theorem dX0_copyFrom_29 : decode cX0_copyFrom 29 = .ok (.invokestatic 43, 3) := by decide +kernel
theorem dX0_copyFrom_32 : decode cX0_copyFrom 32 = .ok (.aload_n 1, 1) := by decide +kernel
theorem dX0_copyFrom_33 : decode cX0_copyFrom 33 = .ok (.getfield 40, 3) := by decide +kernel
theorem dX0_copyFrom_36 : decode cX0_copyFrom 36 = .ok (.iconst 0, 1) := by decide +kernel
theorem dX0_copyFrom_37 : decode cX0_copyFrom 37 = .ok (.aload_n 0, 1) := by decide +kernel
theorem dX0_copyFrom_38 : decode cX0_copyFrom 38 = .ok (.getfield 40, 3) := by decide +kernel
theorem dX0_copyFrom_41 : decode cX0_copyFrom 41 = .ok (.iconst 0, 1) := by decide +kernel
theorem dX0_copyFrom_42 : decode cX0_copyFrom 42 = .ok (.bipush 6, 2) := by decide +kernel
theorem dX0_copyFrom_44 : decode cX0_copyFrom 44 = .ok (.invokestatic 43, 3) := by decide +kernel
theorem dX0_copyFrom_47 : decode cX0_copyFrom 47 = .ok (.aload_n 0, 1) := by decide +kernel
theorem dX0_copyFrom_48 : decode cX0_copyFrom 48 = .ok (.aload_n 1, 1) := by decide +kernel
theorem dX0_copyFrom_49 : decode cX0_copyFrom 49 = .ok (.getfield 24, 3) := by decide +kernel
theorem dX0_copyFrom_52 : decode cX0_copyFrom 52 = .ok (.putfield 24, 3) := by decide +kernel
theorem dX0_copyFrom_55 : decode cX0_copyFrom 55 = .ok (.iconst 0, 1) := by decide +kernel
theorem dX0_copyFrom_56 : decode cX0_copyFrom 56 = .ok (.istore_n 2, 1) := by decide +kernel
theorem dX0_copyFrom_57 : decode cX0_copyFrom 57 = .ok (.iload_n 2, 1) := by decide +kernel
theorem dX0_copyFrom_58 : decode cX0_copyFrom 58 = .ok (.bipush 9, 2) := by decide +kernel
theorem dX0_copyFrom_60 : decode cX0_copyFrom 60 = .ok (.if_icmp .ge 24, 3) := by decide +kernel
theorem dX0_copyFrom_63 : decode cX0_copyFrom 63 = .ok (.aload_n 0, 1) := by decide +kernel
theorem dX0_copyFrom_64 : decode cX0_copyFrom 64 = .ok (.getfield 20, 3) := by decide +kernel
theorem dX0_copyFrom_67 : decode cX0_copyFrom 67 = .ok (.iload_n 2, 1) := by decide +kernel
theorem dX0_copyFrom_68 : decode cX0_copyFrom 68 = .ok (.aaload, 1) := by decide +kernel
theorem dX0_copyFrom_69 : decode cX0_copyFrom 69 = .ok (.aload_n 1, 1) := by decide +kernel
theorem dX0_copyFrom_70 : decode cX0_copyFrom 70 = .ok (.getfield 20, 3) := by decide +kernel
theorem dX0_copyFrom_73 : decode cX0_copyFrom 73 = .ok (.iload_n 2, 1) := by decide +kernel
theorem dX0_copyFrom_74 : decode cX0_copyFrom 74 = .ok (.aaload, 1) := by decide +kernel
theorem dX0_copyFrom_75 : decode cX0_copyFrom 75 = .ok (.invokevirtual 51, 3) := by decide +kernel
theorem dX0_copyFrom_78 : decode cX0_copyFrom 78 = .ok (.iinc 2 1, 3) := by decide +kernel
theorem dX0_copyFrom_81 : decode cX0_copyFrom 81 = .ok (.goto (-24), 3) := by decide +kernel
theorem dX0_copyFrom_84 : decode cX0_copyFrom 84 = .ok (.aload_n 0, 1) := by decide +kernel
theorem dX0_copyFrom_85 : decode cX0_copyFrom 85 = .ok (.aload_n 1, 1) := by decide +kernel
theorem dX0_copyFrom_86 : decode cX0_copyFrom 86 = .ok (.getfield 34, 3) := by decide +kernel
theorem dX0_copyFrom_89 : decode cX0_copyFrom 89 = .ok (.putfield 34, 3) := by decide +kernel
theorem dX0_copyFrom_92 : decode cX0_copyFrom 92 = .ok (.iconst 0, 1) := by decide +kernel
theorem dX0_copyFrom_93 : decode cX0_copyFrom 93 = .ok (.istore_n 2, 1) := by decide +kernel
theorem dX0_copyFrom_94 : decode cX0_copyFrom 94 = .ok (.iload_n 2, 1) := by decide +kernel
theorem dX0_copyFrom_95 : decode cX0_copyFrom 95 = .ok (.bipush 10, 2) := by decide +kernel
theorem dX0_copyFrom_97 : decode cX0_copyFrom 97 = .ok (.if_icmp .ge 24, 3) := by decide +kernel
theorem dX0_copyFrom_100 : decode cX0_copyFrom 100 = .ok (.aload_n 0, 1) := by decide +kernel
theorem dX0_copyFrom_101 : decode cX0_copyFrom 101 = .ok (.getfield 30, 3) := by decide +kernel
theorem dX0_copyFrom_104 : decode cX0_copyFrom 104 = .ok (.iload_n 2, 1) := by decide +kernel
theorem dX0_copyFrom_105 : decode cX0_copyFrom 105 = .ok (.aaload, 1) := by decide +kernel
theorem dX0_copyFrom_106 : decode cX0_copyFrom 106 = .ok (.aload_n 1, 1) := by decide +kernel
theorem dX0_copyFrom_107 : decode cX0_copyFrom 107 = .ok (.getfield 30, 3) := by decide +kernel
theorem dX0_copyFrom_110 : decode cX0_copyFrom 110 = .ok (.iload_n 2, 1) := by decide +kernel
theorem dX0_copyFrom_111 : decode cX0_copyFrom 111 = .ok (.aaload, 1) := by decide +kernel
theorem dX0_copyFrom_112 : decode cX0_copyFrom 112 = .ok (.invokevirtual 55, 3) := by decide +kernel
theorem dX0_copyFrom_115 : decode cX0_copyFrom 115 = .ok (.iinc 2 1, 3) := by decide +kernel
theorem dX0_copyFrom_118 : decode cX0_copyFrom 118 = .ok (.goto (-24), 3) := by decide +kernel
theorem dX0_copyFrom_121 : decode cX0_copyFrom 121 = .ok (.return_, 1) := by decide +kernel
theorem dX0_addStrip_0 : decode cX0_addStrip 0 = .ok (.aload_n 0, 1) := by decide +kernel
theorem dX0_addStrip_1 : decode cX0_addStrip 1 = .ok (.getfield 24, 3) := by decide +kernel
theorem dX0_addStrip_4 : decode cX0_addStrip 4 = .ok (.bipush 9, 2) := by decide +kernel
theorem dX0_addStrip_6 : decode cX0_addStrip 6 = .ok (.if_icmp .ge 26, 3) := by decide +kernel
theorem dX0_addStrip_9 : decode cX0_addStrip 9 = .ok (.aload_n 0, 1) := by decide +kernel
theorem dX0_addStrip_10 : decode cX0_addStrip 10 = .ok (.getfield 20, 3) := by decide +kernel
theorem dX0_addStrip_13 : decode cX0_addStrip 13 = .ok (.aload_n 0, 1) := by decide +kernel
theorem dX0_addStrip_14 : decode cX0_addStrip 14 = .ok (.getfield 24, 3) := by decide +kernel
theorem dX0_addStrip_17 : decode cX0_addStrip 17 = .ok (.aaload, 1) := by decide +kernel
theorem dX0_addStrip_18 : decode cX0_addStrip 18 = .ok (.iload_n 1, 1) := by decide +kernel
theorem dX0_addStrip_19 : decode cX0_addStrip 19 = .ok (.invokevirtual 58, 3) := by decide +kernel
theorem dX0_addStrip_22 : decode cX0_addStrip 22 = .ok (.aload_n 0, 1) := by decide +kernel
theorem dX0_addStrip_23 : decode cX0_addStrip 23 = .ok (.dup, 1) := by decide +kernel
theorem dX0_addStrip_24 : decode cX0_addStrip 24 = .ok (.getfield 24, 3) := by decide +kernel
theorem dX0_addStrip_27 : decode cX0_addStrip 27 = .ok (.iconst 1, 1) := by decide +kernel
theorem dX0_addStrip_28 : decode cX0_addStrip 28 = .ok (.iadd, 1) := by decide +kernel
theorem dX0_addStrip_29 : decode cX0_addStrip 29 = .ok (.putfield 24, 3) := by decide +kernel
theorem dX0_addStrip_32 : decode cX0_addStrip 32 = .ok (.return_, 1) := by decide +kernel
theorem dX0_replaceStrips_0 : decode cX0_replaceStrips 0 = .ok (.aload_n 0, 1) := by decide +kernel
theorem dX0_replaceStrips_1 : decode cX0_replaceStrips 1 = .ok (.iconst 0, 1) := by decide +kernel
theorem dX0_replaceStrips_2 : decode cX0_replaceStrips 2 = .ok (.putfield 24, 3) := by decide +kernel
theorem dX0_replaceStrips_5 : decode cX0_replaceStrips 5 = .ok (.iconst 0, 1) := by decide +kernel
theorem dX0_replaceStrips_6 : decode cX0_replaceStrips 6 = .ok (.istore_n 3, 1) := by decide +kernel
theorem dX0_replaceStrips_7 : decode cX0_replaceStrips 7 = .ok (.iload_n 3, 1) := by decide +kernel
theorem dX0_replaceStrips_8 : decode cX0_replaceStrips 8 = .ok (.iload_n 2, 1) := by decide +kernel
theorem dX0_replaceStrips_9 : decode cX0_replaceStrips 9 = .ok (.if_icmp .ge 16, 3) := by decide +kernel
theorem dX0_replaceStrips_12 : decode cX0_replaceStrips 12 = .ok (.aload_n 0, 1) := by decide +kernel
theorem dX0_replaceStrips_13 : decode cX0_replaceStrips 13 = .ok (.aload_n 1, 1) := by decide +kernel
theorem dX0_replaceStrips_14 : decode cX0_replaceStrips 14 = .ok (.iload_n 3, 1) := by decide +kernel
theorem dX0_replaceStrips_15 : decode cX0_replaceStrips 15 = .ok (.iaload, 1) := by decide +kernel
theorem dX0_replaceStrips_16 : decode cX0_replaceStrips 16 = .ok (.invokevirtual 62, 3) := by decide +kernel
theorem dX0_replaceStrips_19 : decode cX0_replaceStrips 19 = .ok (.iinc 3 1, 3) := by decide +kernel
theorem dX0_replaceStrips_22 : decode cX0_replaceStrips 22 = .ok (.goto (-15), 3) := by decide +kernel
theorem dX0_replaceStrips_25 : decode cX0_replaceStrips 25 = .ok (.return_, 1) := by decide +kernel
theorem dX0_addWord_0 : decode cX0_addWord 0 = .ok (.aload_n 0, 1) := by decide +kernel
theorem dX0_addWord_1 : decode cX0_addWord 1 = .ok (.getfield 34, 3) := by decide +kernel
theorem dX0_addWord_4 : decode cX0_addWord 4 = .ok (.bipush 10, 2) := by decide +kernel
theorem dX0_addWord_6 : decode cX0_addWord 6 = .ok (.if_icmp .ge 26, 3) := by decide +kernel
theorem dX0_addWord_9 : decode cX0_addWord 9 = .ok (.aload_n 0, 1) := by decide +kernel
theorem dX0_addWord_10 : decode cX0_addWord 10 = .ok (.getfield 30, 3) := by decide +kernel
theorem dX0_addWord_13 : decode cX0_addWord 13 = .ok (.aload_n 0, 1) := by decide +kernel
theorem dX0_addWord_14 : decode cX0_addWord 14 = .ok (.getfield 34, 3) := by decide +kernel
theorem dX0_addWord_17 : decode cX0_addWord 17 = .ok (.aaload, 1) := by decide +kernel
theorem dX0_addWord_18 : decode cX0_addWord 18 = .ok (.aload_n 1, 1) := by decide +kernel
theorem dX0_addWord_19 : decode cX0_addWord 19 = .ok (.invokevirtual 55, 3) := by decide +kernel
theorem dX0_addWord_22 : decode cX0_addWord 22 = .ok (.aload_n 0, 1) := by decide +kernel
theorem dX0_addWord_23 : decode cX0_addWord 23 = .ok (.dup, 1) := by decide +kernel
theorem dX0_addWord_24 : decode cX0_addWord 24 = .ok (.getfield 34, 3) := by decide +kernel
theorem dX0_addWord_27 : decode cX0_addWord 27 = .ok (.iconst 1, 1) := by decide +kernel
theorem dX0_addWord_28 : decode cX0_addWord 28 = .ok (.iadd, 1) := by decide +kernel
theorem dX0_addWord_29 : decode cX0_addWord 29 = .ok (.putfield 34, 3) := by decide +kernel
theorem dX0_addWord_32 : decode cX0_addWord 32 = .ok (.return_, 1) := by decide +kernel
theorem dX0_setFoe_0 : decode cX0_setFoe 0 = .ok (.aload_n 0, 1) := by decide +kernel
theorem dX0_setFoe_1 : decode cX0_setFoe 1 = .ok (.getfield 37, 3) := by decide +kernel
theorem dX0_setFoe_4 : decode cX0_setFoe 4 = .ok (.iload_n 1, 1) := by decide +kernel
theorem dX0_setFoe_5 : decode cX0_setFoe 5 = .ok (.iload_n 3, 1) := by decide +kernel
theorem dX0_setFoe_6 : decode cX0_setFoe 6 = .ok (.ifCond .eq 16, 3) := by decide +kernel
theorem dX0_setFoe_9 : decode cX0_setFoe 9 = .ok (.aload_n 0, 1) := by decide +kernel
theorem dX0_setFoe_10 : decode cX0_setFoe 10 = .ok (.getfield 37, 3) := by decide +kernel
theorem dX0_setFoe_13 : decode cX0_setFoe 13 = .ok (.iload_n 1, 1) := by decide +kernel
theorem dX0_setFoe_14 : decode cX0_setFoe 14 = .ok (.iaload, 1) := by decide +kernel
theorem dX0_setFoe_15 : decode cX0_setFoe 15 = .ok (.iconst 1, 1) := by decide +kernel
theorem dX0_setFoe_16 : decode cX0_setFoe 16 = .ok (.iload_n 2, 1) := by decide +kernel
theorem dX0_setFoe_17 : decode cX0_setFoe 17 = .ok (.ishl, 1) := by decide +kernel
theorem dX0_setFoe_18 : decode cX0_setFoe 18 = .ok (.ior, 1) := by decide +kernel
theorem dX0_setFoe_19 : decode cX0_setFoe 19 = .ok (.goto 15, 3) := by decide +kernel
theorem dX0_setFoe_22 : decode cX0_setFoe 22 = .ok (.aload_n 0, 1) := by decide +kernel
theorem dX0_setFoe_23 : decode cX0_setFoe 23 = .ok (.getfield 37, 3) := by decide +kernel
theorem dX0_setFoe_26 : decode cX0_setFoe 26 = .ok (.iload_n 1, 1) := by decide +kernel
theorem dX0_setFoe_27 : decode cX0_setFoe 27 = .ok (.iaload, 1) := by decide +kernel
theorem dX0_setFoe_28 : decode cX0_setFoe 28 = .ok (.iconst 1, 1) := by decide +kernel
theorem dX0_setFoe_29 : decode cX0_setFoe 29 = .ok (.iload_n 2, 1) := by decide +kernel
theorem dX0_setFoe_30 : decode cX0_setFoe 30 = .ok (.ishl, 1) := by decide +kernel
theorem dX0_setFoe_31 : decode cX0_setFoe 31 = .ok (.iconst (-1), 1) := by decide +kernel
theorem dX0_setFoe_32 : decode cX0_setFoe 32 = .ok (.ixor, 1) := by decide +kernel
theorem dX0_setFoe_33 : decode cX0_setFoe 33 = .ok (.iand, 1) := by decide +kernel
theorem dX0_setFoe_34 : decode cX0_setFoe 34 = .ok (.iastore, 1) := by decide +kernel
theorem dX0_setFoe_35 : decode cX0_setFoe 35 = .ok (.return_, 1) := by decide +kernel
theorem dX0_feudCount_0 : decode cX0_feudCount 0 = .ok (.iconst 0, 1) := by decide +kernel
theorem dX0_feudCount_1 : decode cX0_feudCount 1 = .ok (.istore_n 1, 1) := by decide +kernel
theorem dX0_feudCount_2 : decode cX0_feudCount 2 = .ok (.iconst 0, 1) := by decide +kernel
theorem dX0_feudCount_3 : decode cX0_feudCount 3 = .ok (.istore_n 2, 1) := by decide +kernel
theorem dX0_feudCount_4 : decode cX0_feudCount 4 = .ok (.iload_n 2, 1) := by decide +kernel
theorem dX0_feudCount_5 : decode cX0_feudCount 5 = .ok (.bipush 6, 2) := by decide +kernel
theorem dX0_feudCount_7 : decode cX0_feudCount 7 = .ok (.if_icmp .ge 21, 3) := by decide +kernel
theorem dX0_feudCount_10 : decode cX0_feudCount 10 = .ok (.iload_n 1, 1) := by decide +kernel
theorem dX0_feudCount_11 : decode cX0_feudCount 11 = .ok (.aload_n 0, 1) := by decide +kernel
theorem dX0_feudCount_12 : decode cX0_feudCount 12 = .ok (.getfield 37, 3) := by decide +kernel
theorem dX0_feudCount_15 : decode cX0_feudCount 15 = .ok (.iload_n 2, 1) := by decide +kernel
theorem dX0_feudCount_16 : decode cX0_feudCount 16 = .ok (.iaload, 1) := by decide +kernel
theorem dX0_feudCount_17 : decode cX0_feudCount 17 = .ok (.invokestatic 65, 3) := by decide +kernel
theorem dX0_feudCount_20 : decode cX0_feudCount 20 = .ok (.iadd, 1) := by decide +kernel
theorem dX0_feudCount_21 : decode cX0_feudCount 21 = .ok (.istore_n 1, 1) := by decide +kernel
theorem dX0_feudCount_22 : decode cX0_feudCount 22 = .ok (.iinc 2 1, 3) := by decide +kernel
theorem dX0_feudCount_25 : decode cX0_feudCount 25 = .ok (.goto (-21), 3) := by decide +kernel
theorem dX0_feudCount_28 : decode cX0_feudCount 28 = .ok (.iload_n 1, 1) := by decide +kernel
theorem dX0_feudCount_29 : decode cX0_feudCount 29 = .ok (.iconst 2, 1) := by decide +kernel
theorem dX0_feudCount_30 : decode cX0_feudCount 30 = .ok (.idiv, 1) := by decide +kernel
theorem dX0_feudCount_31 : decode cX0_feudCount 31 = .ok (.ireturn, 1) := by decide +kernel
theorem dX0_allHay_0 : decode cX0_allHay 0 = .ok (.iconst 0, 1) := by decide +kernel
theorem dX0_allHay_1 : decode cX0_allHay 1 = .ok (.istore_n 1, 1) := by decide +kernel
theorem dX0_allHay_2 : decode cX0_allHay 2 = .ok (.iconst 0, 1) := by decide +kernel
theorem dX0_allHay_3 : decode cX0_allHay 3 = .ok (.istore_n 2, 1) := by decide +kernel
theorem dX0_allHay_4 : decode cX0_allHay 4 = .ok (.iload_n 2, 1) := by decide +kernel
theorem dX0_allHay_5 : decode cX0_allHay 5 = .ok (.bipush 6, 2) := by decide +kernel
theorem dX0_allHay_7 : decode cX0_allHay 7 = .ok (.if_icmp .ge 18, 3) := by decide +kernel
theorem dX0_allHay_10 : decode cX0_allHay 10 = .ok (.iload_n 1, 1) := by decide +kernel
theorem dX0_allHay_11 : decode cX0_allHay 11 = .ok (.aload_n 0, 1) := by decide +kernel
theorem dX0_allHay_12 : decode cX0_allHay 12 = .ok (.getfield 40, 3) := by decide +kernel
theorem dX0_allHay_15 : decode cX0_allHay 15 = .ok (.iload_n 2, 1) := by decide +kernel
theorem dX0_allHay_16 : decode cX0_allHay 16 = .ok (.iaload, 1) := by decide +kernel
theorem dX0_allHay_17 : decode cX0_allHay 17 = .ok (.iadd, 1) := by decide +kernel
theorem dX0_allHay_18 : decode cX0_allHay 18 = .ok (.istore_n 1, 1) := by decide +kernel
theorem dX0_allHay_19 : decode cX0_allHay 19 = .ok (.iinc 2 1, 3) := by decide +kernel
theorem dX0_allHay_22 : decode cX0_allHay 22 = .ok (.goto (-18), 3) := by decide +kernel
theorem dX0_allHay_25 : decode cX0_allHay 25 = .ok (.iload_n 1, 1) := by decide +kernel
theorem dX0_allHay_26 : decode cX0_allHay 26 = .ok (.ireturn, 1) := by decide +kernel
theorem dX0_growFor_0 : decode cX0_growFor 0 = .ok (.iconst 0, 1) := by decide +kernel
theorem dX0_growFor_1 : decode cX0_growFor 1 = .ok (.istore_n 2, 1) := by decide +kernel
theorem dX0_growFor_2 : decode cX0_growFor 2 = .ok (.iconst 0, 1) := by decide +kernel
theorem dX0_growFor_3 : decode cX0_growFor 3 = .ok (.istore_n 3, 1) := by decide +kernel
theorem dX0_growFor_4 : decode cX0_growFor 4 = .ok (.iload_n 3, 1) := by decide +kernel
theorem dX0_growFor_5 : decode cX0_growFor 5 = .ok (.aload_n 0, 1) := by decide +kernel
theorem dX0_growFor_6 : decode cX0_growFor 6 = .ok (.getfield 24, 3) := by decide +kernel
theorem dX0_growFor_9 : decode cX0_growFor 9 = .ok (.if_icmp .ge 29, 3) := by decide +kernel
theorem dX0_growFor_12 : decode cX0_growFor 12 = .ok (.iload_n 2, 1) := by decide +kernel
theorem dX0_growFor_13 : decode cX0_growFor 13 = .ok (.aload_n 0, 1) := by decide +kernel
theorem dX0_growFor_14 : decode cX0_growFor 14 = .ok (.getfield 20, 3) := by decide +kernel
theorem dX0_growFor_17 : decode cX0_growFor 17 = .ok (.iload_n 3, 1) := by decide +kernel
theorem dX0_growFor_18 : decode cX0_growFor 18 = .ok (.aaload, 1) := by decide +kernel
theorem dX0_growFor_19 : decode cX0_growFor 19 = .ok (.iload_n 1, 1) := by decide +kernel
theorem dX0_growFor_20 : decode cX0_growFor 20 = .ok (.aload_n 0, 1) := by decide +kernel
theorem dX0_growFor_21 : decode cX0_growFor 21 = .ok (.getfield 13, 3) := by decide +kernel
theorem dX0_growFor_24 : decode cX0_growFor 24 = .ok (.iconst 0, 1) := by decide +kernel
theorem dX0_growFor_25 : decode cX0_growFor 25 = .ok (.iaload, 1) := by decide +kernel
theorem dX0_growFor_26 : decode cX0_growFor 26 = .ok (.imul, 1) := by decide +kernel
theorem dX0_growFor_27 : decode cX0_growFor 27 = .ok (.invokevirtual 71, 3) := by decide +kernel
theorem dX0_growFor_30 : decode cX0_growFor 30 = .ok (.iadd, 1) := by decide +kernel
theorem dX0_growFor_31 : decode cX0_growFor 31 = .ok (.istore_n 2, 1) := by decide +kernel
theorem dX0_growFor_32 : decode cX0_growFor 32 = .ok (.iinc 3 1, 3) := by decide +kernel
theorem dX0_growFor_35 : decode cX0_growFor 35 = .ok (.goto (-31), 3) := by decide +kernel
theorem dX0_growFor_38 : decode cX0_growFor 38 = .ok (.iload_n 2, 1) := by decide +kernel
theorem dX0_growFor_39 : decode cX0_growFor 39 = .ok (.ireturn, 1) := by decide +kernel
theorem dX0_harvest_0 : decode cX0_harvest 0 = .ok (.aload_n 0, 1) := by decide +kernel
theorem dX0_harvest_1 : decode cX0_harvest 1 = .ok (.getfield 20, 3) := by decide +kernel
theorem dX0_harvest_4 : decode cX0_harvest 4 = .ok (.iload_n 1, 1) := by decide +kernel
theorem dX0_harvest_5 : decode cX0_harvest 5 = .ok (.aaload, 1) := by decide +kernel
theorem dX0_harvest_6 : decode cX0_harvest 6 = .ok (.iload_n 2, 1) := by decide +kernel
theorem dX0_harvest_7 : decode cX0_harvest 7 = .ok (.invokevirtual 74, 3) := by decide +kernel
theorem dX0_harvest_10 : decode cX0_harvest 10 = .ok (.istore_n 3, 1) := by decide +kernel
theorem dX0_harvest_11 : decode cX0_harvest 11 = .ok (.aload_n 0, 1) := by decide +kernel
theorem dX0_harvest_12 : decode cX0_harvest 12 = .ok (.getfield 20, 3) := by decide +kernel
theorem dX0_harvest_15 : decode cX0_harvest 15 = .ok (.iload_n 1, 1) := by decide +kernel
theorem dX0_harvest_16 : decode cX0_harvest 16 = .ok (.aaload, 1) := by decide +kernel
theorem dX0_harvest_17 : decode cX0_harvest 17 = .ok (.iload_n 2, 1) := by decide +kernel
theorem dX0_harvest_18 : decode cX0_harvest 18 = .ok (.invokevirtual 77, 3) := by decide +kernel
theorem dX0_harvest_21 : decode cX0_harvest 21 = .ok (.aload_n 0, 1) := by decide +kernel
theorem dX0_harvest_22 : decode cX0_harvest 22 = .ok (.getfield 40, 3) := by decide +kernel
theorem dX0_harvest_25 : decode cX0_harvest 25 = .ok (.aload_n 0, 1) := by decide +kernel
theorem dX0_harvest_26 : decode cX0_harvest 26 = .ok (.getfield 20, 3) := by decide +kernel
theorem dX0_harvest_29 : decode cX0_harvest 29 = .ok (.iload_n 1, 1) := by decide +kernel
theorem dX0_harvest_30 : decode cX0_harvest 30 = .ok (.aaload, 1) := by decide +kernel
theorem dX0_harvest_31 : decode cX0_harvest 31 = .ok (.getfield 80, 3) := by decide +kernel
theorem dX0_harvest_34 : decode cX0_harvest 34 = .ok (.dup2, 1) := by decide +kernel
theorem dX0_harvest_35 : decode cX0_harvest 35 = .ok (.iaload, 1) := by decide +kernel
theorem dX0_harvest_36 : decode cX0_harvest 36 = .ok (.iload_n 3, 1) := by decide +kernel
theorem dX0_harvest_37 : decode cX0_harvest 37 = .ok (.iadd, 1) := by decide +kernel
theorem dX0_harvest_38 : decode cX0_harvest 38 = .ok (.iastore, 1) := by decide +kernel
theorem dX0_harvest_39 : decode cX0_harvest 39 = .ok (.iload_n 3, 1) := by decide +kernel
theorem dX0_harvest_40 : decode cX0_harvest 40 = .ok (.ireturn, 1) := by decide +kernel
theorem dX0_seenCells_0 : decode cX0_seenCells 0 = .ok (.aload_n 0, 1) := by decide +kernel
theorem dX0_seenCells_1 : decode cX0_seenCells 1 = .ok (.getfield 20, 3) := by decide +kernel
theorem dX0_seenCells_4 : decode cX0_seenCells 4 = .ok (.iload_n 1, 1) := by decide +kernel
theorem dX0_seenCells_5 : decode cX0_seenCells 5 = .ok (.aaload, 1) := by decide +kernel
theorem dX0_seenCells_6 : decode cX0_seenCells 6 = .ok (.aload_n 0, 1) := by decide +kernel
theorem dX0_seenCells_7 : decode cX0_seenCells 7 = .ok (.getfield 13, 3) := by decide +kernel
theorem dX0_seenCells_10 : decode cX0_seenCells 10 = .ok (.iconst 1, 1) := by decide +kernel
theorem dX0_seenCells_11 : decode cX0_seenCells 11 = .ok (.iaload, 1) := by decide +kernel
theorem dX0_seenCells_12 : decode cX0_seenCells 12 = .ok (.invokevirtual 83, 3) := by decide +kernel
theorem dX0_seenCells_15 : decode cX0_seenCells 15 = .ok (.ireturn, 1) := by decide +kernel
theorem dX0_letterOn_0 : decode cX0_letterOn 0 = .ok (.aload_n 0, 1) := by decide +kernel
theorem dX0_letterOn_1 : decode cX0_letterOn 1 = .ok (.aload_n 0, 1) := by decide +kernel
theorem dX0_letterOn_2 : decode cX0_letterOn 2 = .ok (.iload_n 1, 1) := by decide +kernel
theorem dX0_letterOn_3 : decode cX0_letterOn 3 = .ok (.invokevirtual 86, 3) := by decide +kernel
theorem dX0_letterOn_6 : decode cX0_letterOn 6 = .ok (.invokevirtual 89, 3) := by decide +kernel
theorem dX0_letterOn_9 : decode cX0_letterOn 9 = .ok (.ireturn, 1) := by decide +kernel
theorem dX0_letterSeenAs_0 : decode cX0_letterSeenAs 0 = .ok (.iload_n 1, 1) := by decide +kernel
theorem dX0_letterSeenAs_1 : decode cX0_letterSeenAs 1 = .ok (.invokestatic 92, 3) := by decide +kernel
theorem dX0_letterSeenAs_4 : decode cX0_letterSeenAs 4 = .ok (.istore_n 2, 1) := by decide +kernel
theorem dX0_letterSeenAs_5 : decode cX0_letterSeenAs 5 = .ok (.iload_n 2, 1) := by decide +kernel
theorem dX0_letterSeenAs_6 : decode cX0_letterSeenAs 6 = .ok (.bipush 32, 2) := by decide +kernel
theorem dX0_letterSeenAs_8 : decode cX0_letterSeenAs 8 = .ok (.idiv, 1) := by decide +kernel
theorem dX0_letterSeenAs_9 : decode cX0_letterSeenAs 9 = .ok (.aload_n 0, 1) := by decide +kernel
theorem dX0_letterSeenAs_10 : decode cX0_letterSeenAs 10 = .ok (.getfield 13, 3) := by decide +kernel
theorem dX0_letterSeenAs_13 : decode cX0_letterSeenAs 13 = .ok (.iconst 2, 1) := by decide +kernel
theorem dX0_letterSeenAs_14 : decode cX0_letterSeenAs 14 = .ok (.iaload, 1) := by decide +kernel
theorem dX0_letterSeenAs_15 : decode cX0_letterSeenAs 15 = .ok (.if_icmp .le 8, 3) := by decide +kernel
theorem dX0_letterSeenAs_18 : decode cX0_letterSeenAs 18 = .ok (.bipush (-4), 2) := by decide +kernel
theorem dX0_letterSeenAs_20 : decode cX0_letterSeenAs 20 = .ok (.goto 7, 3) := by decide +kernel
theorem dX0_letterSeenAs_23 : decode cX0_letterSeenAs 23 = .ok (.iload_n 2, 1) := by decide +kernel
theorem dX0_letterSeenAs_24 : decode cX0_letterSeenAs 24 = .ok (.bipush 32, 2) := by decide +kernel
theorem dX0_letterSeenAs_26 : decode cX0_letterSeenAs 26 = .ok (.irem, 1) := by decide +kernel
theorem dX0_letterSeenAs_27 : decode cX0_letterSeenAs 27 = .ok (.ireturn, 1) := by decide +kernel
theorem dX0_hasRoom_0 : decode cX0_hasRoom 0 = .ok (.iload_n 2, 1) := by decide +kernel
theorem dX0_hasRoom_1 : decode cX0_hasRoom 1 = .ok (.aload_n 1, 1) := by decide +kernel
theorem dX0_hasRoom_2 : decode cX0_hasRoom 2 = .ok (.getfield 95, 3) := by decide +kernel
theorem dX0_hasRoom_5 : decode cX0_hasRoom 5 = .ok (.iadd, 1) := by decide +kernel
theorem dX0_hasRoom_6 : decode cX0_hasRoom 6 = .ok (.aload_n 0, 1) := by decide +kernel
theorem dX0_hasRoom_7 : decode cX0_hasRoom 7 = .ok (.getfield 24, 3) := by decide +kernel
theorem dX0_hasRoom_10 : decode cX0_hasRoom 10 = .ok (.if_icmp .gt 7, 3) := by decide +kernel
theorem dX0_hasRoom_13 : decode cX0_hasRoom 13 = .ok (.iconst 1, 1) := by decide +kernel
theorem dX0_hasRoom_14 : decode cX0_hasRoom 14 = .ok (.goto 4, 3) := by decide +kernel
theorem dX0_hasRoom_17 : decode cX0_hasRoom 17 = .ok (.iconst 0, 1) := by decide +kernel
theorem dX0_hasRoom_18 : decode cX0_hasRoom 18 = .ok (.ireturn, 1) := by decide +kernel
theorem dX0_isWritten_0 : decode cX0_isWritten 0 = .ok (.aload_n 0, 1) := by decide +kernel
theorem dX0_isWritten_1 : decode cX0_isWritten 1 = .ok (.aload_n 1, 1) := by decide +kernel
theorem dX0_isWritten_2 : decode cX0_isWritten 2 = .ok (.iload_n 2, 1) := by decide +kernel
theorem dX0_isWritten_3 : decode cX0_isWritten 3 = .ok (.invokevirtual 98, 3) := by decide +kernel
theorem dX0_isWritten_6 : decode cX0_isWritten 6 = .ok (.ifCond .ne 5, 3) := by decide +kernel
theorem dX0_isWritten_9 : decode cX0_isWritten 9 = .ok (.iconst 0, 1) := by decide +kernel
theorem dX0_isWritten_10 : decode cX0_isWritten 10 = .ok (.ireturn, 1) := by decide +kernel
theorem dX0_isWritten_11 : decode cX0_isWritten 11 = .ok (.aload_n 0, 1) := by decide +kernel
theorem dX0_isWritten_12 : decode cX0_isWritten 12 = .ok (.getfield 13, 3) := by decide +kernel
theorem dX0_isWritten_15 : decode cX0_isWritten 15 = .ok (.iconst 1, 1) := by decide +kernel
theorem dX0_isWritten_16 : decode cX0_isWritten 16 = .ok (.iaload, 1) := by decide +kernel
theorem dX0_isWritten_17 : decode cX0_isWritten 17 = .ok (.iload_n 3, 1) := by decide +kernel
theorem dX0_isWritten_18 : decode cX0_isWritten 18 = .ok (.aload_n 0, 1) := by decide +kernel
theorem dX0_isWritten_19 : decode cX0_isWritten 19 = .ok (.getfield 13, 3) := by decide +kernel
theorem dX0_isWritten_22 : decode cX0_isWritten 22 = .ok (.iconst 0, 1) := by decide +kernel
theorem dX0_isWritten_23 : decode cX0_isWritten 23 = .ok (.iaload, 1) := by decide +kernel
theorem dX0_isWritten_24 : decode cX0_isWritten 24 = .ok (.imul, 1) := by decide +kernel
theorem dX0_isWritten_25 : decode cX0_isWritten 25 = .ok (.isub, 1) := by decide +kernel
theorem dX0_isWritten_26 : decode cX0_isWritten 26 = .ok (.istore 4, 2) := by decide +kernel
theorem dX0_isWritten_28 : decode cX0_isWritten 28 = .ok (.iconst 0, 1) := by decide +kernel
theorem dX0_isWritten_29 : decode cX0_isWritten 29 = .ok (.istore 5, 2) := by decide +kernel
theorem dX0_isWritten_31 : decode cX0_isWritten 31 = .ok (.iload 5, 2) := by decide +kernel
theorem dX0_isWritten_33 : decode cX0_isWritten 33 = .ok (.aload_n 1, 1) := by decide +kernel
theorem dX0_isWritten_34 : decode cX0_isWritten 34 = .ok (.getfield 95, 3) := by decide +kernel
theorem dX0_isWritten_37 : decode cX0_isWritten 37 = .ok (.if_icmp .ge 39, 3) := by decide +kernel
theorem dX0_isWritten_40 : decode cX0_isWritten 40 = .ok (.aload_n 0, 1) := by decide +kernel
theorem dX0_isWritten_41 : decode cX0_isWritten 41 = .ok (.aload_n 0, 1) := by decide +kernel
theorem dX0_isWritten_42 : decode cX0_isWritten 42 = .ok (.getfield 20, 3) := by decide +kernel
theorem dX0_isWritten_45 : decode cX0_isWritten 45 = .ok (.iload_n 2, 1) := by decide +kernel
theorem dX0_isWritten_46 : decode cX0_isWritten 46 = .ok (.iload 5, 2) := by decide +kernel
theorem dX0_isWritten_48 : decode cX0_isWritten 48 = .ok (.iadd, 1) := by decide +kernel
theorem dX0_isWritten_49 : decode cX0_isWritten 49 = .ok (.aaload, 1) := by decide +kernel
theorem dX0_isWritten_50 : decode cX0_isWritten 50 = .ok (.iload 4, 2) := by decide +kernel
theorem dX0_isWritten_52 : decode cX0_isWritten 52 = .ok (.invokevirtual 83, 3) := by decide +kernel
theorem dX0_isWritten_55 : decode cX0_isWritten 55 = .ok (.invokevirtual 89, 3) := by decide +kernel
theorem dX0_isWritten_58 : decode cX0_isWritten 58 = .ok (.aload_n 1, 1) := by decide +kernel
theorem dX0_isWritten_59 : decode cX0_isWritten 59 = .ok (.getfield 102, 3) := by decide +kernel
theorem dX0_isWritten_62 : decode cX0_isWritten 62 = .ok (.iload 5, 2) := by decide +kernel
theorem dX0_isWritten_64 : decode cX0_isWritten 64 = .ok (.iaload, 1) := by decide +kernel
theorem dX0_isWritten_65 : decode cX0_isWritten 65 = .ok (.if_icmp .eq 5, 3) := by decide +kernel
theorem dX0_isWritten_68 : decode cX0_isWritten 68 = .ok (.iconst 0, 1) := by decide +kernel
theorem dX0_isWritten_69 : decode cX0_isWritten 69 = .ok (.ireturn, 1) := by decide +kernel
theorem dX0_isWritten_70 : decode cX0_isWritten 70 = .ok (.iinc 5 1, 3) := by decide +kernel
theorem dX0_isWritten_73 : decode cX0_isWritten 73 = .ok (.goto (-42), 3) := by decide +kernel
theorem dX0_isWritten_76 : decode cX0_isWritten 76 = .ok (.iconst 1, 1) := by decide +kernel
theorem dX0_isWritten_77 : decode cX0_isWritten 77 = .ok (.ireturn, 1) := by decide +kernel
theorem dX0_cellsOff_0 : decode cX0_cellsOff 0 = .ok (.iconst 0, 1) := by decide +kernel
theorem dX0_cellsOff_1 : decode cX0_cellsOff 1 = .ok (.istore_n 3, 1) := by decide +kernel
theorem dX0_cellsOff_2 : decode cX0_cellsOff 2 = .ok (.iconst 0, 1) := by decide +kernel
theorem dX0_cellsOff_3 : decode cX0_cellsOff 3 = .ok (.istore 4, 2) := by decide +kernel
theorem dX0_cellsOff_5 : decode cX0_cellsOff 5 = .ok (.iload 4, 2) := by decide +kernel
theorem dX0_cellsOff_7 : decode cX0_cellsOff 7 = .ok (.aload_n 1, 1) := by decide +kernel
theorem dX0_cellsOff_8 : decode cX0_cellsOff 8 = .ok (.getfield 95, 3) := by decide +kernel
theorem dX0_cellsOff_11 : decode cX0_cellsOff 11 = .ok (.if_icmp .ge 35, 3) := by decide +kernel
theorem dX0_cellsOff_14 : decode cX0_cellsOff 14 = .ok (.iload_n 3, 1) := by decide +kernel
theorem dX0_cellsOff_15 : decode cX0_cellsOff 15 = .ok (.aload_n 0, 1) := by decide +kernel
theorem dX0_cellsOff_16 : decode cX0_cellsOff 16 = .ok (.iload_n 2, 1) := by decide +kernel
theorem dX0_cellsOff_17 : decode cX0_cellsOff 17 = .ok (.iload 4, 2) := by decide +kernel
theorem dX0_cellsOff_19 : decode cX0_cellsOff 19 = .ok (.iadd, 1) := by decide +kernel
theorem dX0_cellsOff_20 : decode cX0_cellsOff 20 = .ok (.invokevirtual 86, 3) := by decide +kernel
theorem dX0_cellsOff_23 : decode cX0_cellsOff 23 = .ok (.getstatic 105, 3) := by decide +kernel
theorem dX0_cellsOff_26 : decode cX0_cellsOff 26 = .ok (.aload_n 1, 1) := by decide +kernel
theorem dX0_cellsOff_27 : decode cX0_cellsOff 27 = .ok (.getfield 102, 3) := by decide +kernel
theorem dX0_cellsOff_30 : decode cX0_cellsOff 30 = .ok (.iload 4, 2) := by decide +kernel
theorem dX0_cellsOff_32 : decode cX0_cellsOff 32 = .ok (.iaload, 1) := by decide +kernel
theorem dX0_cellsOff_33 : decode cX0_cellsOff 33 = .ok (.iaload, 1) := by decide +kernel
theorem dX0_cellsOff_34 : decode cX0_cellsOff 34 = .ok (.ixor, 1) := by decide +kernel
theorem dX0_cellsOff_35 : decode cX0_cellsOff 35 = .ok (.invokestatic 65, 3) := by decide +kernel
theorem dX0_cellsOff_38 : decode cX0_cellsOff 38 = .ok (.iadd, 1) := by decide +kernel
theorem dX0_cellsOff_39 : decode cX0_cellsOff 39 = .ok (.istore_n 3, 1) := by decide +kernel
theorem dX0_cellsOff_40 : decode cX0_cellsOff 40 = .ok (.iinc 4 1, 3) := by decide +kernel
theorem dX0_cellsOff_43 : decode cX0_cellsOff 43 = .ok (.goto (-38), 3) := by decide +kernel
theorem dX0_cellsOff_46 : decode cX0_cellsOff 46 = .ok (.iload_n 3, 1) := by decide +kernel
theorem dX0_cellsOff_47 : decode cX0_cellsOff 47 = .ok (.ireturn, 1) := by decide +kernel
theorem dX0_isAllowed_0 : decode cX0_isAllowed 0 = .ok (.aload_n 0, 1) := by decide +kernel
theorem dX0_isAllowed_1 : decode cX0_isAllowed 1 = .ok (.aload_n 1, 1) := by decide +kernel
theorem dX0_isAllowed_2 : decode cX0_isAllowed 2 = .ok (.iload_n 2, 1) := by decide +kernel
theorem dX0_isAllowed_3 : decode cX0_isAllowed 3 = .ok (.invokevirtual 98, 3) := by decide +kernel
theorem dX0_isAllowed_6 : decode cX0_isAllowed 6 = .ok (.ifCond .eq 12, 3) := by decide +kernel
theorem dX0_isAllowed_9 : decode cX0_isAllowed 9 = .ok (.aload_n 0, 1) := by decide +kernel
theorem dX0_isAllowed_10 : decode cX0_isAllowed 10 = .ok (.aload_n 1, 1) := by decide +kernel
theorem dX0_isAllowed_11 : decode cX0_isAllowed 11 = .ok (.iload_n 2, 1) := by decide +kernel
theorem dX0_isAllowed_12 : decode cX0_isAllowed 12 = .ok (.invokevirtual 108, 3) := by decide +kernel
theorem dX0_isAllowed_15 : decode cX0_isAllowed 15 = .ok (.ifCond .eq 5, 3) := by decide +kernel
theorem dX0_isAllowed_18 : decode cX0_isAllowed 18 = .ok (.iconst 0, 1) := by decide +kernel
theorem dX0_isAllowed_19 : decode cX0_isAllowed 19 = .ok (.ireturn, 1) := by decide +kernel
theorem dX0_isAllowed_20 : decode cX0_isAllowed 20 = .ok (.iconst 0, 1) := by decide +kernel
theorem dX0_isAllowed_21 : decode cX0_isAllowed 21 = .ok (.istore_n 3, 1) := by decide +kernel
theorem dX0_isAllowed_22 : decode cX0_isAllowed 22 = .ok (.iload_n 3, 1) := by decide +kernel
theorem dX0_isAllowed_23 : decode cX0_isAllowed 23 = .ok (.aload_n 1, 1) := by decide +kernel
theorem dX0_isAllowed_24 : decode cX0_isAllowed 24 = .ok (.getfield 95, 3) := by decide +kernel
theorem dX0_isAllowed_27 : decode cX0_isAllowed 27 = .ok (.if_icmp .ge 27, 3) := by decide +kernel
theorem dX0_isAllowed_30 : decode cX0_isAllowed 30 = .ok (.aload_n 0, 1) := by decide +kernel
theorem dX0_isAllowed_31 : decode cX0_isAllowed 31 = .ok (.iload_n 2, 1) := by decide +kernel
theorem dX0_isAllowed_32 : decode cX0_isAllowed 32 = .ok (.iload_n 3, 1) := by decide +kernel
theorem dX0_isAllowed_33 : decode cX0_isAllowed 33 = .ok (.iadd, 1) := by decide +kernel
theorem dX0_isAllowed_34 : decode cX0_isAllowed 34 = .ok (.aload_n 1, 1) := by decide +kernel
theorem dX0_isAllowed_35 : decode cX0_isAllowed 35 = .ok (.getfield 102, 3) := by decide +kernel
theorem dX0_isAllowed_38 : decode cX0_isAllowed 38 = .ok (.iload_n 3, 1) := by decide +kernel
theorem dX0_isAllowed_39 : decode cX0_isAllowed 39 = .ok (.iaload, 1) := by decide +kernel
theorem dX0_isAllowed_40 : decode cX0_isAllowed 40 = .ok (.invokevirtual 111, 3) := by decide +kernel
theorem dX0_isAllowed_43 : decode cX0_isAllowed 43 = .ok (.ifCond .ne 5, 3) := by decide +kernel
theorem dX0_isAllowed_46 : decode cX0_isAllowed 46 = .ok (.iconst 0, 1) := by decide +kernel
theorem dX0_isAllowed_47 : decode cX0_isAllowed 47 = .ok (.ireturn, 1) := by decide +kernel
theorem dX0_isAllowed_48 : decode cX0_isAllowed 48 = .ok (.iinc 3 1, 3) := by decide +kernel
theorem dX0_isAllowed_51 : decode cX0_isAllowed 51 = .ok (.goto (-29), 3) := by decide +kernel
theorem dX0_isAllowed_54 : decode cX0_isAllowed 54 = .ok (.iconst 1, 1) := by decide +kernel
theorem dX0_isAllowed_55 : decode cX0_isAllowed 55 = .ok (.ireturn, 1) := by decide +kernel
theorem dX0_hasFeud_0 : decode cX0_hasFeud 0 = .ok (.iconst 0, 1) := by decide +kernel
theorem dX0_hasFeud_1 : decode cX0_hasFeud 1 = .ok (.istore_n 3, 1) := by decide +kernel
theorem dX0_hasFeud_2 : decode cX0_hasFeud 2 = .ok (.iconst 0, 1) := by decide +kernel
theorem dX0_hasFeud_3 : decode cX0_hasFeud 3 = .ok (.istore 4, 2) := by decide +kernel
theorem dX0_hasFeud_5 : decode cX0_hasFeud 5 = .ok (.iconst 0, 1) := by decide +kernel
theorem dX0_hasFeud_6 : decode cX0_hasFeud 6 = .ok (.istore 5, 2) := by decide +kernel
theorem dX0_hasFeud_8 : decode cX0_hasFeud 8 = .ok (.iload 5, 2) := by decide +kernel
theorem dX0_hasFeud_10 : decode cX0_hasFeud 10 = .ok (.aload_n 1, 1) := by decide +kernel
theorem dX0_hasFeud_11 : decode cX0_hasFeud 11 = .ok (.getfield 95, 3) := by decide +kernel
theorem dX0_hasFeud_14 : decode cX0_hasFeud 14 = .ok (.if_icmp .ge 48, 3) := by decide +kernel
theorem dX0_hasFeud_17 : decode cX0_hasFeud 17 = .ok (.iload_n 3, 1) := by decide +kernel
theorem dX0_hasFeud_18 : decode cX0_hasFeud 18 = .ok (.iconst 1, 1) := by decide +kernel
theorem dX0_hasFeud_19 : decode cX0_hasFeud 19 = .ok (.aload_n 0, 1) := by decide +kernel
theorem dX0_hasFeud_20 : decode cX0_hasFeud 20 = .ok (.getfield 20, 3) := by decide +kernel
theorem dX0_hasFeud_23 : decode cX0_hasFeud 23 = .ok (.iload_n 2, 1) := by decide +kernel
theorem dX0_hasFeud_24 : decode cX0_hasFeud 24 = .ok (.iload 5, 2) := by decide +kernel
theorem dX0_hasFeud_26 : decode cX0_hasFeud 26 = .ok (.iadd, 1) := by decide +kernel
theorem dX0_hasFeud_27 : decode cX0_hasFeud 27 = .ok (.aaload, 1) := by decide +kernel
theorem dX0_hasFeud_28 : decode cX0_hasFeud 28 = .ok (.getfield 80, 3) := by decide +kernel
theorem dX0_hasFeud_31 : decode cX0_hasFeud 31 = .ok (.ishl, 1) := by decide +kernel
theorem dX0_hasFeud_32 : decode cX0_hasFeud 32 = .ok (.ior, 1) := by decide +kernel
theorem dX0_hasFeud_33 : decode cX0_hasFeud 33 = .ok (.istore_n 3, 1) := by decide +kernel
theorem dX0_hasFeud_34 : decode cX0_hasFeud 34 = .ok (.iload 4, 2) := by decide +kernel
theorem dX0_hasFeud_36 : decode cX0_hasFeud 36 = .ok (.aload_n 0, 1) := by decide +kernel
theorem dX0_hasFeud_37 : decode cX0_hasFeud 37 = .ok (.getfield 37, 3) := by decide +kernel
theorem dX0_hasFeud_40 : decode cX0_hasFeud 40 = .ok (.aload_n 0, 1) := by decide +kernel
theorem dX0_hasFeud_41 : decode cX0_hasFeud 41 = .ok (.getfield 20, 3) := by decide +kernel
theorem dX0_hasFeud_44 : decode cX0_hasFeud 44 = .ok (.iload_n 2, 1) := by decide +kernel
theorem dX0_hasFeud_45 : decode cX0_hasFeud 45 = .ok (.iload 5, 2) := by decide +kernel
theorem dX0_hasFeud_47 : decode cX0_hasFeud 47 = .ok (.iadd, 1) := by decide +kernel
theorem dX0_hasFeud_48 : decode cX0_hasFeud 48 = .ok (.aaload, 1) := by decide +kernel
theorem dX0_hasFeud_49 : decode cX0_hasFeud 49 = .ok (.getfield 80, 3) := by decide +kernel
theorem dX0_hasFeud_52 : decode cX0_hasFeud 52 = .ok (.iaload, 1) := by decide +kernel
theorem dX0_hasFeud_53 : decode cX0_hasFeud 53 = .ok (.ior, 1) := by decide +kernel
theorem dX0_hasFeud_54 : decode cX0_hasFeud 54 = .ok (.istore 4, 2) := by decide +kernel
theorem dX0_hasFeud_56 : decode cX0_hasFeud 56 = .ok (.iinc 5 1, 3) := by decide +kernel
theorem dX0_hasFeud_59 : decode cX0_hasFeud 59 = .ok (.goto (-51), 3) := by decide +kernel
theorem dX0_hasFeud_62 : decode cX0_hasFeud 62 = .ok (.iload_n 3, 1) := by decide +kernel
theorem dX0_hasFeud_63 : decode cX0_hasFeud 63 = .ok (.iload 4, 2) := by decide +kernel
theorem dX0_hasFeud_65 : decode cX0_hasFeud 65 = .ok (.iand, 1) := by decide +kernel
theorem dX0_hasFeud_66 : decode cX0_hasFeud 66 = .ok (.ifCond .eq 7, 3) := by decide +kernel
theorem dX0_hasFeud_69 : decode cX0_hasFeud 69 = .ok (.iconst 1, 1) := by decide +kernel
theorem dX0_hasFeud_70 : decode cX0_hasFeud 70 = .ok (.goto 4, 3) := by decide +kernel
theorem dX0_hasFeud_73 : decode cX0_hasFeud 73 = .ok (.iconst 0, 1) := by decide +kernel
theorem dX0_hasFeud_74 : decode cX0_hasFeud 74 = .ok (.ireturn, 1) := by decide +kernel
theorem dX0_wouldRead_0 : decode cX0_wouldRead 0 = .ok (.getstatic 105, 3) := by decide +kernel
theorem dX0_wouldRead_3 : decode cX0_wouldRead 3 = .ok (.iload_n 2, 1) := by decide +kernel
theorem dX0_wouldRead_4 : decode cX0_wouldRead 4 = .ok (.iaload, 1) := by decide +kernel
theorem dX0_wouldRead_5 : decode cX0_wouldRead 5 = .ok (.istore_n 3, 1) := by decide +kernel
theorem dX0_wouldRead_6 : decode cX0_wouldRead 6 = .ok (.aload_n 0, 1) := by decide +kernel
theorem dX0_wouldRead_7 : decode cX0_wouldRead 7 = .ok (.getfield 20, 3) := by decide +kernel
theorem dX0_wouldRead_10 : decode cX0_wouldRead 10 = .ok (.iload_n 1, 1) := by decide +kernel
theorem dX0_wouldRead_11 : decode cX0_wouldRead 11 = .ok (.aaload, 1) := by decide +kernel
theorem dX0_wouldRead_12 : decode cX0_wouldRead 12 = .ok (.iload_n 3, 1) := by decide +kernel
theorem dX0_wouldRead_13 : decode cX0_wouldRead 13 = .ok (.invokevirtual 115, 3) := by decide +kernel
theorem dX0_wouldRead_16 : decode cX0_wouldRead 16 = .ok (.ifCond .eq 22, 3) := by decide +kernel
theorem dX0_wouldRead_19 : decode cX0_wouldRead 19 = .ok (.aload_n 0, 1) := by decide +kernel
theorem dX0_wouldRead_20 : decode cX0_wouldRead 20 = .ok (.aload_n 0, 1) := by decide +kernel
theorem dX0_wouldRead_21 : decode cX0_wouldRead 21 = .ok (.iload_n 1, 1) := by decide +kernel
theorem dX0_wouldRead_22 : decode cX0_wouldRead 22 = .ok (.invokevirtual 86, 3) := by decide +kernel
theorem dX0_wouldRead_25 : decode cX0_wouldRead 25 = .ok (.iload_n 3, 1) := by decide +kernel
theorem dX0_wouldRead_26 : decode cX0_wouldRead 26 = .ok (.ior, 1) := by decide +kernel
theorem dX0_wouldRead_27 : decode cX0_wouldRead 27 = .ok (.invokevirtual 89, 3) := by decide +kernel
theorem dX0_wouldRead_30 : decode cX0_wouldRead 30 = .ok (.iload_n 2, 1) := by decide +kernel
theorem dX0_wouldRead_31 : decode cX0_wouldRead 31 = .ok (.if_icmp .ne 7, 3) := by decide +kernel
theorem dX0_wouldRead_34 : decode cX0_wouldRead 34 = .ok (.iconst 1, 1) := by decide +kernel
theorem dX0_wouldRead_35 : decode cX0_wouldRead 35 = .ok (.goto 4, 3) := by decide +kernel
theorem dX0_wouldRead_38 : decode cX0_wouldRead 38 = .ok (.iconst 0, 1) := by decide +kernel
theorem dX0_wouldRead_39 : decode cX0_wouldRead 39 = .ok (.ireturn, 1) := by decide +kernel
theorem dX0_lossBy_0 : decode cX0_lossBy 0 = .ok (.iconst 0, 1) := by decide +kernel
theorem dX0_lossBy_1 : decode cX0_lossBy 1 = .ok (.istore_n 3, 1) := by decide +kernel
theorem dX0_lossBy_2 : decode cX0_lossBy 2 = .ok (.iconst 0, 1) := by decide +kernel
theorem dX0_lossBy_3 : decode cX0_lossBy 3 = .ok (.istore 4, 2) := by decide +kernel
theorem dX0_lossBy_5 : decode cX0_lossBy 5 = .ok (.iload 4, 2) := by decide +kernel
theorem dX0_lossBy_7 : decode cX0_lossBy 7 = .ok (.aload_n 1, 1) := by decide +kernel
theorem dX0_lossBy_8 : decode cX0_lossBy 8 = .ok (.getfield 95, 3) := by decide +kernel
theorem dX0_lossBy_11 : decode cX0_lossBy 11 = .ok (.if_icmp .ge 27, 3) := by decide +kernel
theorem dX0_lossBy_14 : decode cX0_lossBy 14 = .ok (.iload_n 3, 1) := by decide +kernel
theorem dX0_lossBy_15 : decode cX0_lossBy 15 = .ok (.aload_n 0, 1) := by decide +kernel
theorem dX0_lossBy_16 : decode cX0_lossBy 16 = .ok (.iload_n 2, 1) := by decide +kernel
theorem dX0_lossBy_17 : decode cX0_lossBy 17 = .ok (.iload 4, 2) := by decide +kernel
theorem dX0_lossBy_19 : decode cX0_lossBy 19 = .ok (.iadd, 1) := by decide +kernel
theorem dX0_lossBy_20 : decode cX0_lossBy 20 = .ok (.aload_n 1, 1) := by decide +kernel
theorem dX0_lossBy_21 : decode cX0_lossBy 21 = .ok (.getfield 102, 3) := by decide +kernel
theorem dX0_lossBy_24 : decode cX0_lossBy 24 = .ok (.iload 4, 2) := by decide +kernel
theorem dX0_lossBy_26 : decode cX0_lossBy 26 = .ok (.iaload, 1) := by decide +kernel
theorem dX0_lossBy_27 : decode cX0_lossBy 27 = .ok (.invokevirtual 119, 3) := by decide +kernel
theorem dX0_lossBy_30 : decode cX0_lossBy 30 = .ok (.iadd, 1) := by decide +kernel
theorem dX0_lossBy_31 : decode cX0_lossBy 31 = .ok (.istore_n 3, 1) := by decide +kernel
theorem dX0_lossBy_32 : decode cX0_lossBy 32 = .ok (.iinc 4 1, 3) := by decide +kernel
theorem dX0_lossBy_35 : decode cX0_lossBy 35 = .ok (.goto (-30), 3) := by decide +kernel
theorem dX0_lossBy_38 : decode cX0_lossBy 38 = .ok (.iload_n 3, 1) := by decide +kernel
theorem dX0_lossBy_39 : decode cX0_lossBy 39 = .ok (.ireturn, 1) := by decide +kernel
theorem dX0_lossOn_0 : decode cX0_lossOn 0 = .ok (.aload_n 0, 1) := by decide +kernel
theorem dX0_lossOn_1 : decode cX0_lossOn 1 = .ok (.getfield 20, 3) := by decide +kernel
theorem dX0_lossOn_4 : decode cX0_lossOn 4 = .ok (.iload_n 1, 1) := by decide +kernel
theorem dX0_lossOn_5 : decode cX0_lossOn 5 = .ok (.aaload, 1) := by decide +kernel
theorem dX0_lossOn_6 : decode cX0_lossOn 6 = .ok (.invokevirtual 123, 3) := by decide +kernel
theorem dX0_lossOn_9 : decode cX0_lossOn 9 = .ok (.getstatic 105, 3) := by decide +kernel
theorem dX0_lossOn_12 : decode cX0_lossOn 12 = .ok (.iload_n 2, 1) := by decide +kernel
theorem dX0_lossOn_13 : decode cX0_lossOn 13 = .ok (.iaload, 1) := by decide +kernel
theorem dX0_lossOn_14 : decode cX0_lossOn 14 = .ok (.iconst (-1), 1) := by decide +kernel
theorem dX0_lossOn_15 : decode cX0_lossOn 15 = .ok (.ixor, 1) := by decide +kernel
theorem dX0_lossOn_16 : decode cX0_lossOn 16 = .ok (.iand, 1) := by decide +kernel
theorem dX0_lossOn_17 : decode cX0_lossOn 17 = .ok (.istore_n 3, 1) := by decide +kernel
theorem dX0_lossOn_18 : decode cX0_lossOn 18 = .ok (.aload_n 0, 1) := by decide +kernel
theorem dX0_lossOn_19 : decode cX0_lossOn 19 = .ok (.getfield 13, 3) := by decide +kernel
theorem dX0_lossOn_22 : decode cX0_lossOn 22 = .ok (.iconst 3, 1) := by decide +kernel
theorem dX0_lossOn_23 : decode cX0_lossOn 23 = .ok (.iaload, 1) := by decide +kernel
theorem dX0_lossOn_24 : decode cX0_lossOn 24 = .ok (.aload_n 0, 1) := by decide +kernel
theorem dX0_lossOn_25 : decode cX0_lossOn 25 = .ok (.getfield 20, 3) := by decide +kernel
theorem dX0_lossOn_28 : decode cX0_lossOn 28 = .ok (.iload_n 1, 1) := by decide +kernel
theorem dX0_lossOn_29 : decode cX0_lossOn 29 = .ok (.aaload, 1) := by decide +kernel
theorem dX0_lossOn_30 : decode cX0_lossOn 30 = .ok (.iload_n 3, 1) := by decide +kernel
theorem dX0_lossOn_31 : decode cX0_lossOn 31 = .ok (.invokevirtual 74, 3) := by decide +kernel
theorem dX0_lossOn_34 : decode cX0_lossOn 34 = .ok (.imul, 1) := by decide +kernel
theorem dX0_lossOn_35 : decode cX0_lossOn 35 = .ok (.ireturn, 1) := by decide +kernel
theorem dX0_shareOf_0 : decode cX0_shareOf 0 = .ok (.aload_n 1, 1) := by decide +kernel
theorem dX0_shareOf_1 : decode cX0_shareOf 1 = .ok (.getfield 95, 3) := by decide +kernel
theorem dX0_shareOf_4 : decode cX0_shareOf 4 = .ok (.iconst 1, 1) := by decide +kernel
theorem dX0_shareOf_5 : decode cX0_shareOf 5 = .ok (.if_icmp .ge 5, 3) := by decide +kernel
theorem dX0_shareOf_8 : decode cX0_shareOf 8 = .ok (.iconst 0, 1) := by decide +kernel
theorem dX0_shareOf_9 : decode cX0_shareOf 9 = .ok (.ireturn, 1) := by decide +kernel
theorem dX0_shareOf_10 : decode cX0_shareOf 10 = .ok (.iload 4, 2) := by decide +kernel
theorem dX0_shareOf_12 : decode cX0_shareOf 12 = .ok (.aload_n 1, 1) := by decide +kernel
theorem dX0_shareOf_13 : decode cX0_shareOf 13 = .ok (.getfield 95, 3) := by decide +kernel
theorem dX0_shareOf_16 : decode cX0_shareOf 16 = .ok (.idiv, 1) := by decide +kernel
theorem dX0_shareOf_17 : decode cX0_shareOf 17 = .ok (.istore 5, 2) := by decide +kernel
theorem dX0_shareOf_19 : decode cX0_shareOf 19 = .ok (.iload 4, 2) := by decide +kernel
theorem dX0_shareOf_21 : decode cX0_shareOf 21 = .ok (.aload_n 1, 1) := by decide +kernel
theorem dX0_shareOf_22 : decode cX0_shareOf 22 = .ok (.getfield 95, 3) := by decide +kernel
theorem dX0_shareOf_25 : decode cX0_shareOf 25 = .ok (.irem, 1) := by decide +kernel
theorem dX0_shareOf_26 : decode cX0_shareOf 26 = .ok (.istore 6, 2) := by decide +kernel
theorem dX0_shareOf_28 : decode cX0_shareOf 28 = .ok (.iconst 0, 1) := by decide +kernel
theorem dX0_shareOf_29 : decode cX0_shareOf 29 = .ok (.istore 7, 2) := by decide +kernel
theorem dX0_shareOf_31 : decode cX0_shareOf 31 = .ok (.iconst 0, 1) := by decide +kernel
theorem dX0_shareOf_32 : decode cX0_shareOf 32 = .ok (.istore 8, 2) := by decide +kernel
theorem dX0_shareOf_34 : decode cX0_shareOf 34 = .ok (.iload 8, 2) := by decide +kernel
theorem dX0_shareOf_36 : decode cX0_shareOf 36 = .ok (.aload_n 1, 1) := by decide +kernel
theorem dX0_shareOf_37 : decode cX0_shareOf 37 = .ok (.getfield 95, 3) := by decide +kernel
theorem dX0_shareOf_40 : decode cX0_shareOf 40 = .ok (.if_icmp .ge 61, 3) := by decide +kernel
theorem dX0_shareOf_43 : decode cX0_shareOf 43 = .ok (.aload_n 0, 1) := by decide +kernel
theorem dX0_shareOf_44 : decode cX0_shareOf 44 = .ok (.getfield 20, 3) := by decide +kernel
theorem dX0_shareOf_47 : decode cX0_shareOf 47 = .ok (.iload_n 2, 1) := by decide +kernel
theorem dX0_shareOf_48 : decode cX0_shareOf 48 = .ok (.iload 8, 2) := by decide +kernel
theorem dX0_shareOf_50 : decode cX0_shareOf 50 = .ok (.iadd, 1) := by decide +kernel
theorem dX0_shareOf_51 : decode cX0_shareOf 51 = .ok (.aaload, 1) := by decide +kernel
theorem dX0_shareOf_52 : decode cX0_shareOf 52 = .ok (.getfield 80, 3) := by decide +kernel
theorem dX0_shareOf_55 : decode cX0_shareOf 55 = .ok (.iload_n 3, 1) := by decide +kernel
theorem dX0_shareOf_56 : decode cX0_shareOf 56 = .ok (.if_icmp .ne 39, 3) := by decide +kernel
theorem dX0_shareOf_59 : decode cX0_shareOf 59 = .ok (.iload 7, 2) := by decide +kernel
theorem dX0_shareOf_61 : decode cX0_shareOf 61 = .ok (.aload_n 0, 1) := by decide +kernel
theorem dX0_shareOf_62 : decode cX0_shareOf 62 = .ok (.iload_n 2, 1) := by decide +kernel
theorem dX0_shareOf_63 : decode cX0_shareOf 63 = .ok (.iload 8, 2) := by decide +kernel
theorem dX0_shareOf_65 : decode cX0_shareOf 65 = .ok (.iadd, 1) := by decide +kernel
theorem dX0_shareOf_66 : decode cX0_shareOf 66 = .ok (.aload_n 1, 1) := by decide +kernel
theorem dX0_shareOf_67 : decode cX0_shareOf 67 = .ok (.getfield 102, 3) := by decide +kernel
theorem dX0_shareOf_70 : decode cX0_shareOf 70 = .ok (.iload 8, 2) := by decide +kernel
theorem dX0_shareOf_72 : decode cX0_shareOf 72 = .ok (.iaload, 1) := by decide +kernel
theorem dX0_shareOf_73 : decode cX0_shareOf 73 = .ok (.invokevirtual 119, 3) := by decide +kernel
theorem dX0_shareOf_76 : decode cX0_shareOf 76 = .ok (.iload 5, 2) := by decide +kernel
theorem dX0_shareOf_78 : decode cX0_shareOf 78 = .ok (.iadd, 1) := by decide +kernel
theorem dX0_shareOf_79 : decode cX0_shareOf 79 = .ok (.iload 8, 2) := by decide +kernel
theorem dX0_shareOf_81 : decode cX0_shareOf 81 = .ok (.iload 6, 2) := by decide +kernel
theorem dX0_shareOf_83 : decode cX0_shareOf 83 = .ok (.if_icmp .ge 7, 3) := by decide +kernel
theorem dX0_shareOf_86 : decode cX0_shareOf 86 = .ok (.iconst 1, 1) := by decide +kernel
theorem dX0_shareOf_87 : decode cX0_shareOf 87 = .ok (.goto 4, 3) := by decide +kernel
theorem dX0_shareOf_90 : decode cX0_shareOf 90 = .ok (.iconst 0, 1) := by decide +kernel
theorem dX0_shareOf_91 : decode cX0_shareOf 91 = .ok (.iadd, 1) := by decide +kernel
theorem dX0_shareOf_92 : decode cX0_shareOf 92 = .ok (.iadd, 1) := by decide +kernel
theorem dX0_shareOf_93 : decode cX0_shareOf 93 = .ok (.istore 7, 2) := by decide +kernel
theorem dX0_shareOf_95 : decode cX0_shareOf 95 = .ok (.iinc 8 1, 3) := by decide +kernel
theorem dX0_shareOf_98 : decode cX0_shareOf 98 = .ok (.goto (-64), 3) := by decide +kernel
theorem dX0_shareOf_101 : decode cX0_shareOf 101 = .ok (.iload 7, 2) := by decide +kernel
theorem dX0_shareOf_103 : decode cX0_shareOf 103 = .ok (.ireturn, 1) := by decide +kernel
theorem dX0_isOwnForm_0 : decode cX0_isOwnForm 0 = .ok (.iconst 0, 1) := by decide +kernel
theorem dX0_isOwnForm_1 : decode cX0_isOwnForm 1 = .ok (.istore_n 3, 1) := by decide +kernel
theorem dX0_isOwnForm_2 : decode cX0_isOwnForm 2 = .ok (.iload_n 3, 1) := by decide +kernel
theorem dX0_isOwnForm_3 : decode cX0_isOwnForm 3 = .ok (.aload_n 0, 1) := by decide +kernel
theorem dX0_isOwnForm_4 : decode cX0_isOwnForm 4 = .ok (.getfield 34, 3) := by decide +kernel
theorem dX0_isOwnForm_7 : decode cX0_isOwnForm 7 = .ok (.if_icmp .ge 38, 3) := by decide +kernel
theorem dX0_isOwnForm_10 : decode cX0_isOwnForm 10 = .ok (.aload_n 1, 1) := by decide +kernel
theorem dX0_isOwnForm_11 : decode cX0_isOwnForm 11 = .ok (.aload_n 0, 1) := by decide +kernel
theorem dX0_isOwnForm_12 : decode cX0_isOwnForm 12 = .ok (.getfield 30, 3) := by decide +kernel
theorem dX0_isOwnForm_15 : decode cX0_isOwnForm 15 = .ok (.iload_n 3, 1) := by decide +kernel
theorem dX0_isOwnForm_16 : decode cX0_isOwnForm 16 = .ok (.aaload, 1) := by decide +kernel
theorem dX0_isOwnForm_17 : decode cX0_isOwnForm 17 = .ok (.invokevirtual 127, 3) := by decide +kernel
theorem dX0_isOwnForm_20 : decode cX0_isOwnForm 20 = .ok (.ifCond .ne 19, 3) := by decide +kernel
theorem dX0_isOwnForm_23 : decode cX0_isOwnForm 23 = .ok (.aload_n 1, 1) := by decide +kernel
theorem dX0_isOwnForm_24 : decode cX0_isOwnForm 24 = .ok (.iload_n 2, 1) := by decide +kernel
theorem dX0_isOwnForm_25 : decode cX0_isOwnForm 25 = .ok (.aload_n 0, 1) := by decide +kernel
theorem dX0_isOwnForm_26 : decode cX0_isOwnForm 26 = .ok (.getfield 30, 3) := by decide +kernel
theorem dX0_isOwnForm_29 : decode cX0_isOwnForm 29 = .ok (.iload_n 3, 1) := by decide +kernel
theorem dX0_isOwnForm_30 : decode cX0_isOwnForm 30 = .ok (.aaload, 1) := by decide +kernel
theorem dX0_isOwnForm_31 : decode cX0_isOwnForm 31 = .ok (.invokevirtual 131, 3) := by decide +kernel
theorem dX0_isOwnForm_34 : decode cX0_isOwnForm 34 = .ok (.ifCond .eq 5, 3) := by decide +kernel
theorem dX0_isOwnForm_37 : decode cX0_isOwnForm 37 = .ok (.iconst 0, 1) := by decide +kernel
theorem dX0_isOwnForm_38 : decode cX0_isOwnForm 38 = .ok (.ireturn, 1) := by decide +kernel
theorem dX0_isOwnForm_39 : decode cX0_isOwnForm 39 = .ok (.iinc 3 1, 3) := by decide +kernel
theorem dX0_isOwnForm_42 : decode cX0_isOwnForm 42 = .ok (.goto (-40), 3) := by decide +kernel
theorem dX0_isOwnForm_45 : decode cX0_isOwnForm 45 = .ok (.iconst 1, 1) := by decide +kernel
theorem dX0_isOwnForm_46 : decode cX0_isOwnForm 46 = .ok (.ireturn, 1) := by decide +kernel
theorem dX1_init_0 : decode cX1_init 0 = .ok (.aload_n 0, 1) := by decide +kernel
theorem dX1_init_1 : decode cX1_init 1 = .ok (.invokespecial 5, 3) := by decide +kernel
theorem dX1_init_4 : decode cX1_init 4 = .ok (.aload_n 0, 1) := by decide +kernel
theorem dX1_init_5 : decode cX1_init 5 = .ok (.bipush 26, 2) := by decide +kernel
theorem dX1_init_7 : decode cX1_init 7 = .ok (.bipush 7, 2) := by decide +kernel
theorem dX1_init_9 : decode cX1_init 9 = .ok (.multianewarray 11 2, 4) := by decide +kernel
theorem dX1_init_13 : decode cX1_init 13 = .ok (.putfield 13, 3) := by decide +kernel
theorem dX1_init_16 : decode cX1_init 16 = .ok (.aload_n 0, 1) := by decide +kernel
theorem dX1_init_17 : decode cX1_init 17 = .ok (.bipush 26, 2) := by decide +kernel
theorem dX1_init_19 : decode cX1_init 19 = .ok (.bipush 16, 2) := by decide +kernel
theorem dX1_init_21 : decode cX1_init 21 = .ok (.multianewarray 16 2, 4) := by decide +kernel
theorem dX1_init_25 : decode cX1_init 25 = .ok (.putfield 18, 3) := by decide +kernel
theorem dX1_init_28 : decode cX1_init 28 = .ok (.aload_n 0, 1) := by decide +kernel
theorem dX1_init_29 : decode cX1_init 29 = .ok (.bipush 16, 2) := by decide +kernel
theorem dX1_init_31 : decode cX1_init 31 = .ok (.newarray .long, 2) := by decide +kernel
theorem dX1_init_33 : decode cX1_init 33 = .ok (.putfield 21, 3) := by decide +kernel
theorem dX1_init_36 : decode cX1_init 36 = .ok (.aload_n 0, 1) := by decide +kernel
theorem dX1_init_37 : decode cX1_init 37 = .ok (.bipush (-4), 2) := by decide +kernel
theorem dX1_init_39 : decode cX1_init 39 = .ok (.putfield 25, 3) := by decide +kernel
theorem dX1_init_42 : decode cX1_init 42 = .ok (.aload_n 0, 1) := by decide +kernel
theorem dX1_init_43 : decode cX1_init 43 = .ok (.bipush (-4), 2) := by decide +kernel
theorem dX1_init_45 : decode cX1_init 45 = .ok (.putfield 29, 3) := by decide +kernel
theorem dX1_init_48 : decode cX1_init 48 = .ok (.iconst 0, 1) := by decide +kernel
theorem dX1_init_49 : decode cX1_init 49 = .ok (.istore_n 1, 1) := by decide +kernel
theorem dX1_init_50 : decode cX1_init 50 = .ok (.iload_n 1, 1) := by decide +kernel
theorem dX1_init_51 : decode cX1_init 51 = .ok (.bipush 26, 2) := by decide +kernel
theorem dX1_init_53 : decode cX1_init 53 = .ok (.if_icmp .ge 49, 3) := by decide +kernel
theorem dX1_init_56 : decode cX1_init 56 = .ok (.iconst 0, 1) := by decide +kernel
theorem dX1_init_57 : decode cX1_init 57 = .ok (.istore_n 2, 1) := by decide +kernel
theorem dX1_init_58 : decode cX1_init 58 = .ok (.iload_n 2, 1) := by decide +kernel
theorem dX1_init_59 : decode cX1_init 59 = .ok (.bipush 64, 2) := by decide +kernel
theorem dX1_init_61 : decode cX1_init 61 = .ok (.if_icmp .ge 35, 3) := by decide +kernel
theorem dX1_init_64 : decode cX1_init 64 = .ok (.aload_n 0, 1) := by decide +kernel
theorem dX1_init_65 : decode cX1_init 65 = .ok (.getfield 13, 3) := by decide +kernel
theorem dX1_init_68 : decode cX1_init 68 = .ok (.iload_n 1, 1) := by decide +kernel
theorem dX1_init_69 : decode cX1_init 69 = .ok (.aaload, 1) := by decide +kernel
theorem dX1_init_70 : decode cX1_init 70 = .ok (.iload_n 2, 1) := by decide +kernel
theorem dX1_init_71 : decode cX1_init 71 = .ok (.getstatic 32, 3) := by decide +kernel
theorem dX1_init_74 : decode cX1_init 74 = .ok (.iload_n 1, 1) := by decide +kernel
theorem dX1_init_75 : decode cX1_init 75 = .ok (.iaload, 1) := by decide +kernel
theorem dX1_init_76 : decode cX1_init 76 = .ok (.bipush 64, 2) := by decide +kernel
theorem dX1_init_78 : decode cX1_init 78 = .ok (.irem, 1) := by decide +kernel
theorem dX1_init_79 : decode cX1_init 79 = .ok (.ixor, 1) := by decide +kernel
theorem dX1_init_80 : decode cX1_init 80 = .ok (.invokestatic 36, 3) := by decide +kernel
theorem dX1_init_83 : decode cX1_init 83 = .ok (.dup2, 1) := by decide +kernel
theorem dX1_init_84 : decode cX1_init 84 = .ok (.laload, 1) := by decide +kernel
theorem dX1_init_85 : decode cX1_init 85 = .ok (.lconst 1, 1) := by decide +kernel
theorem dX1_init_86 : decode cX1_init 86 = .ok (.iload_n 2, 1) := by decide +kernel
theorem dX1_init_87 : decode cX1_init 87 = .ok (.lshl, 1) := by decide +kernel
theorem dX1_init_88 : decode cX1_init 88 = .ok (.lor, 1) := by decide +kernel
theorem dX1_init_89 : decode cX1_init 89 = .ok (.lastore, 1) := by decide +kernel
theorem dX1_init_90 : decode cX1_init 90 = .ok (.iinc 2 1, 3) := by decide +kernel
theorem dX1_init_93 : decode cX1_init 93 = .ok (.goto (-35), 3) := by decide +kernel
theorem dX1_init_96 : decode cX1_init 96 = .ok (.iinc 1 1, 3) := by decide +kernel
theorem dX1_init_99 : decode cX1_init 99 = .ok (.goto (-49), 3) := by decide +kernel
theorem dX1_init_102 : decode cX1_init 102 = .ok (.return_, 1) := by decide +kernel
theorem dX1_surenessOf_0 : decode cX1_surenessOf 0 = .ok (.aload_n 0, 1) := by decide +kernel
theorem dX1_surenessOf_1 : decode cX1_surenessOf 1 = .ok (.iload_n 2, 1) := by decide +kernel
theorem dX1_surenessOf_2 : decode cX1_surenessOf 2 = .ok (.invokevirtual 42, 3) := by decide +kernel
theorem dX1_surenessOf_5 : decode cX1_surenessOf 5 = .ok (.aload_n 0, 1) := by decide +kernel
theorem dX1_surenessOf_6 : decode cX1_surenessOf 6 = .ok (.iload_n 1, 1) := by decide +kernel
theorem dX1_surenessOf_7 : decode cX1_surenessOf 7 = .ok (.iload_n 3, 1) := by decide +kernel
theorem dX1_surenessOf_8 : decode cX1_surenessOf 8 = .ok (.invokevirtual 46, 3) := by decide +kernel
theorem dX1_surenessOf_11 : decode cX1_surenessOf 11 = .ok (.aload_n 0, 1) := by decide +kernel
theorem dX1_surenessOf_12 : decode cX1_surenessOf 12 = .ok (.iload_n 1, 1) := by decide +kernel
theorem dX1_surenessOf_13 : decode cX1_surenessOf 13 = .ok (.invokevirtual 50, 3) := by decide +kernel
theorem dX1_surenessOf_16 : decode cX1_surenessOf 16 = .ok (.lstore 4, 2) := by decide +kernel
theorem dX1_surenessOf_18 : decode cX1_surenessOf 18 = .ok (.bipush 30, 2) := by decide +kernel
theorem dX1_surenessOf_20 : decode cX1_surenessOf 20 = .ok (.istore 6, 2) := by decide +kernel
theorem dX1_surenessOf_22 : decode cX1_surenessOf 22 = .ok (.ldc2_w 54, 3) := by decide +kernel
theorem dX1_surenessOf_25 : decode cX1_surenessOf 25 = .ok (.lload 4, 2) := by decide +kernel
theorem dX1_surenessOf_27 : decode cX1_surenessOf 27 = .ok (.iload 6, 2) := by decide +kernel
theorem dX1_surenessOf_29 : decode cX1_surenessOf 29 = .ok (.lshr, 1) := by decide +kernel
theorem dX1_surenessOf_30 : decode cX1_surenessOf 30 = .ok (.lmul, 1) := by decide +kernel
theorem dX1_surenessOf_31 : decode cX1_surenessOf 31 = .ok (.lstore 7, 2) := by decide +kernel
theorem dX1_surenessOf_33 : decode cX1_surenessOf 33 = .ok (.ldc2_w 54, 3) := by decide +kernel
theorem dX1_surenessOf_36 : decode cX1_surenessOf 36 = .ok (.lload 4, 2) := by decide +kernel
theorem dX1_surenessOf_38 : decode cX1_surenessOf 38 = .ok (.lconst 1, 1) := by decide +kernel
theorem dX1_surenessOf_39 : decode cX1_surenessOf 39 = .ok (.iload 6, 2) := by decide +kernel
theorem dX1_surenessOf_41 : decode cX1_surenessOf 41 = .ok (.lshl, 1) := by decide +kernel
theorem dX1_surenessOf_42 : decode cX1_surenessOf 42 = .ok (.lconst 1, 1) := by decide +kernel
theorem dX1_surenessOf_43 : decode cX1_surenessOf 43 = .ok (.lsub, 1) := by decide +kernel
theorem dX1_surenessOf_44 : decode cX1_surenessOf 44 = .ok (.land, 1) := by decide +kernel
theorem dX1_surenessOf_45 : decode cX1_surenessOf 45 = .ok (.lmul, 1) := by decide +kernel
theorem dX1_surenessOf_46 : decode cX1_surenessOf 46 = .ok (.lstore 9, 2) := by decide +kernel
theorem dX1_surenessOf_48 : decode cX1_surenessOf 48 = .ok (.lload 7, 2) := by decide +kernel
theorem dX1_surenessOf_50 : decode cX1_surenessOf 50 = .ok (.lload 9, 2) := by decide +kernel
theorem dX1_surenessOf_52 : decode cX1_surenessOf 52 = .ok (.iload 6, 2) := by decide +kernel
theorem dX1_surenessOf_54 : decode cX1_surenessOf 54 = .ok (.lshr, 1) := by decide +kernel
theorem dX1_surenessOf_55 : decode cX1_surenessOf 55 = .ok (.ladd, 1) := by decide +kernel
theorem dX1_surenessOf_56 : decode cX1_surenessOf 56 = .ok (.iload 6, 2) := by decide +kernel
theorem dX1_surenessOf_58 : decode cX1_surenessOf 58 = .ok (.lshr, 1) := by decide +kernel
theorem dX1_surenessOf_59 : decode cX1_surenessOf 59 = .ok (.l2i, 1) := by decide +kernel
theorem dX1_surenessOf_60 : decode cX1_surenessOf 60 = .ok (.ireturn, 1) := by decide +kernel
theorem dX1_mistakeFor_0 : decode cX1_mistakeFor 0 = .ok (.aload_n 0, 1) := by decide +kernel
theorem dX1_mistakeFor_1 : decode cX1_mistakeFor 1 = .ok (.iload_n 2, 1) := by decide +kernel
theorem dX1_mistakeFor_2 : decode cX1_mistakeFor 2 = .ok (.invokevirtual 42, 3) := by decide +kernel
theorem dX1_mistakeFor_5 : decode cX1_mistakeFor 5 = .ok (.aload_n 0, 1) := by decide +kernel
theorem dX1_mistakeFor_6 : decode cX1_mistakeFor 6 = .ok (.iload_n 1, 1) := by decide +kernel
theorem dX1_mistakeFor_7 : decode cX1_mistakeFor 7 = .ok (.iload_n 3, 1) := by decide +kernel
theorem dX1_mistakeFor_8 : decode cX1_mistakeFor 8 = .ok (.invokevirtual 46, 3) := by decide +kernel
theorem dX1_mistakeFor_11 : decode cX1_mistakeFor 11 = .ok (.bipush (-4), 2) := by decide +kernel
theorem dX1_mistakeFor_13 : decode cX1_mistakeFor 13 = .ok (.istore 4, 2) := by decide +kernel
theorem dX1_mistakeFor_15 : decode cX1_mistakeFor 15 = .ok (.lconst 0, 1) := by decide +kernel
theorem dX1_mistakeFor_16 : decode cX1_mistakeFor 16 = .ok (.lstore 5, 2) := by decide +kernel
theorem dX1_mistakeFor_18 : decode cX1_mistakeFor 18 = .ok (.iconst 0, 1) := by decide +kernel
theorem dX1_mistakeFor_19 : decode cX1_mistakeFor 19 = .ok (.istore 7, 2) := by decide +kernel
theorem dX1_mistakeFor_21 : decode cX1_mistakeFor 21 = .ok (.iload 7, 2) := by decide +kernel
theorem dX1_mistakeFor_23 : decode cX1_mistakeFor 23 = .ok (.bipush 26, 2) := by decide +kernel
theorem dX1_mistakeFor_25 : decode cX1_mistakeFor 25 = .ok (.if_icmp .ge 43, 3) := by decide +kernel
theorem dX1_mistakeFor_28 : decode cX1_mistakeFor 28 = .ok (.iload 7, 2) := by decide +kernel
theorem dX1_mistakeFor_30 : decode cX1_mistakeFor 30 = .ok (.iload_n 1, 1) := by decide +kernel
theorem dX1_mistakeFor_31 : decode cX1_mistakeFor 31 = .ok (.if_icmp .ne 7, 3) := by decide +kernel
theorem dX1_mistakeFor_34 : decode cX1_mistakeFor 34 = .ok (.lconst 0, 1) := by decide +kernel
theorem dX1_mistakeFor_35 : decode cX1_mistakeFor 35 = .ok (.goto 9, 3) := by decide +kernel
theorem dX1_mistakeFor_38 : decode cX1_mistakeFor 38 = .ok (.aload_n 0, 1) := by decide +kernel
theorem dX1_mistakeFor_39 : decode cX1_mistakeFor 39 = .ok (.iload 7, 2) := by decide +kernel
theorem dX1_mistakeFor_41 : decode cX1_mistakeFor 41 = .ok (.invokevirtual 50, 3) := by decide +kernel
theorem dX1_mistakeFor_44 : decode cX1_mistakeFor 44 = .ok (.lstore 8, 2) := by decide +kernel
theorem dX1_mistakeFor_46 : decode cX1_mistakeFor 46 = .ok (.lload 8, 2) := by decide +kernel
theorem dX1_mistakeFor_48 : decode cX1_mistakeFor 48 = .ok (.lload 5, 2) := by decide +kernel
theorem dX1_mistakeFor_50 : decode cX1_mistakeFor 50 = .ok (.lcmp, 1) := by decide +kernel
theorem dX1_mistakeFor_51 : decode cX1_mistakeFor 51 = .ok (.ifCond .le 11, 3) := by decide +kernel
theorem dX1_mistakeFor_54 : decode cX1_mistakeFor 54 = .ok (.iload 7, 2) := by decide +kernel
theorem dX1_mistakeFor_56 : decode cX1_mistakeFor 56 = .ok (.istore 4, 2) := by decide +kernel
theorem dX1_mistakeFor_58 : decode cX1_mistakeFor 58 = .ok (.lload 8, 2) := by decide +kernel
theorem dX1_mistakeFor_60 : decode cX1_mistakeFor 60 = .ok (.lstore 5, 2) := by decide +kernel
theorem dX1_mistakeFor_62 : decode cX1_mistakeFor 62 = .ok (.iinc 7 1, 3) := by decide +kernel
theorem dX1_mistakeFor_65 : decode cX1_mistakeFor 65 = .ok (.goto (-44), 3) := by decide +kernel
theorem dX1_mistakeFor_68 : decode cX1_mistakeFor 68 = .ok (.iload 4, 2) := by decide +kernel
theorem dX1_mistakeFor_70 : decode cX1_mistakeFor 70 = .ok (.ireturn, 1) := by decide +kernel
theorem dX1_weigh_0 : decode cX1_weigh 0 = .ok (.iconst 0, 1) := by decide +kernel
theorem dX1_weigh_1 : decode cX1_weigh 1 = .ok (.istore_n 2, 1) := by decide +kernel
theorem dX1_weigh_2 : decode cX1_weigh 2 = .ok (.iload_n 2, 1) := by decide +kernel
theorem dX1_weigh_3 : decode cX1_weigh 3 = .ok (.bipush 16, 2) := by decide +kernel
theorem dX1_weigh_5 : decode cX1_weigh 5 = .ok (.if_icmp .ge 53, 3) := by decide +kernel
theorem dX1_weigh_8 : decode cX1_weigh 8 = .ok (.lconst 1, 1) := by decide +kernel
theorem dX1_weigh_9 : decode cX1_weigh 9 = .ok (.lstore_n 3, 1) := by decide +kernel
theorem dX1_weigh_10 : decode cX1_weigh 10 = .ok (.iconst 0, 1) := by decide +kernel
theorem dX1_weigh_11 : decode cX1_weigh 11 = .ok (.istore 5, 2) := by decide +kernel
theorem dX1_weigh_13 : decode cX1_weigh 13 = .ok (.iload 5, 2) := by decide +kernel
theorem dX1_weigh_15 : decode cX1_weigh 15 = .ok (.bipush 15, 2) := by decide +kernel
theorem dX1_weigh_17 : decode cX1_weigh 17 = .ok (.if_icmp .ge 28, 3) := by decide +kernel
theorem dX1_weigh_20 : decode cX1_weigh 20 = .ok (.lload_n 3, 1) := by decide +kernel
theorem dX1_weigh_21 : decode cX1_weigh 21 = .ok (.iload 5, 2) := by decide +kernel
theorem dX1_weigh_23 : decode cX1_weigh 23 = .ok (.iload_n 2, 1) := by decide +kernel
theorem dX1_weigh_24 : decode cX1_weigh 24 = .ok (.if_icmp .ge 8, 3) := by decide +kernel
theorem dX1_weigh_27 : decode cX1_weigh 27 = .ok (.iload_n 1, 1) := by decide +kernel
theorem dX1_weigh_28 : decode cX1_weigh 28 = .ok (.i2l, 1) := by decide +kernel
theorem dX1_weigh_29 : decode cX1_weigh 29 = .ok (.goto 8, 3) := by decide +kernel
theorem dX1_weigh_32 : decode cX1_weigh 32 = .ok (.bipush 16, 2) := by decide +kernel
theorem dX1_weigh_34 : decode cX1_weigh 34 = .ok (.iload_n 1, 1) := by decide +kernel
theorem dX1_weigh_35 : decode cX1_weigh 35 = .ok (.isub, 1) := by decide +kernel
theorem dX1_weigh_36 : decode cX1_weigh 36 = .ok (.i2l, 1) := by decide +kernel
theorem dX1_weigh_37 : decode cX1_weigh 37 = .ok (.lmul, 1) := by decide +kernel
theorem dX1_weigh_38 : decode cX1_weigh 38 = .ok (.lstore_n 3, 1) := by decide +kernel
theorem dX1_weigh_39 : decode cX1_weigh 39 = .ok (.iinc 5 1, 3) := by decide +kernel
theorem dX1_weigh_42 : decode cX1_weigh 42 = .ok (.goto (-29), 3) := by decide +kernel
theorem dX1_weigh_45 : decode cX1_weigh 45 = .ok (.aload_n 0, 1) := by decide +kernel
theorem dX1_weigh_46 : decode cX1_weigh 46 = .ok (.getfield 21, 3) := by decide +kernel
theorem dX1_weigh_49 : decode cX1_weigh 49 = .ok (.iload_n 2, 1) := by decide +kernel
theorem dX1_weigh_50 : decode cX1_weigh 50 = .ok (.lload_n 3, 1) := by decide +kernel
theorem dX1_weigh_51 : decode cX1_weigh 51 = .ok (.lastore, 1) := by decide +kernel
theorem dX1_weigh_52 : decode cX1_weigh 52 = .ok (.iinc 2 1, 3) := by decide +kernel
theorem dX1_weigh_55 : decode cX1_weigh 55 = .ok (.goto (-53), 3) := by decide +kernel
theorem dX1_weigh_58 : decode cX1_weigh 58 = .ok (.return_, 1) := by decide +kernel
theorem dX1_oddsToRead_0 : decode cX1_oddsToRead 0 = .ok (.lconst 0, 1) := by decide +kernel
theorem dX1_oddsToRead_1 : decode cX1_oddsToRead 1 = .ok (.lstore_n 2, 1) := by decide +kernel
theorem dX1_oddsToRead_2 : decode cX1_oddsToRead 2 = .ok (.iconst 0, 1) := by decide +kernel
theorem dX1_oddsToRead_3 : decode cX1_oddsToRead 3 = .ok (.istore 4, 2) := by decide +kernel
theorem dX1_oddsToRead_5 : decode cX1_oddsToRead 5 = .ok (.iload 4, 2) := by decide +kernel
theorem dX1_oddsToRead_7 : decode cX1_oddsToRead 7 = .ok (.bipush 16, 2) := by decide +kernel
theorem dX1_oddsToRead_9 : decode cX1_oddsToRead 9 = .ok (.if_icmp .ge 30, 3) := by decide +kernel
theorem dX1_oddsToRead_12 : decode cX1_oddsToRead 12 = .ok (.lload_n 2, 1) := by decide +kernel
theorem dX1_oddsToRead_13 : decode cX1_oddsToRead 13 = .ok (.aload_n 0, 1) := by decide +kernel
theorem dX1_oddsToRead_14 : decode cX1_oddsToRead 14 = .ok (.getfield 18, 3) := by decide +kernel
theorem dX1_oddsToRead_17 : decode cX1_oddsToRead 17 = .ok (.iload_n 1, 1) := by decide +kernel
theorem dX1_oddsToRead_18 : decode cX1_oddsToRead 18 = .ok (.aaload, 1) := by decide +kernel
theorem dX1_oddsToRead_19 : decode cX1_oddsToRead 19 = .ok (.iload 4, 2) := by decide +kernel
theorem dX1_oddsToRead_21 : decode cX1_oddsToRead 21 = .ok (.iaload, 1) := by decide +kernel
theorem dX1_oddsToRead_22 : decode cX1_oddsToRead 22 = .ok (.i2l, 1) := by decide +kernel
theorem dX1_oddsToRead_23 : decode cX1_oddsToRead 23 = .ok (.aload_n 0, 1) := by decide +kernel
theorem dX1_oddsToRead_24 : decode cX1_oddsToRead 24 = .ok (.getfield 21, 3) := by decide +kernel
theorem dX1_oddsToRead_27 : decode cX1_oddsToRead 27 = .ok (.iload 4, 2) := by decide +kernel
theorem dX1_oddsToRead_29 : decode cX1_oddsToRead 29 = .ok (.laload, 1) := by decide +kernel
theorem dX1_oddsToRead_30 : decode cX1_oddsToRead 30 = .ok (.lmul, 1) := by decide +kernel
theorem dX1_oddsToRead_31 : decode cX1_oddsToRead 31 = .ok (.ladd, 1) := by decide +kernel
theorem dX1_oddsToRead_32 : decode cX1_oddsToRead 32 = .ok (.lstore_n 2, 1) := by decide +kernel
theorem dX1_oddsToRead_33 : decode cX1_oddsToRead 33 = .ok (.iinc 4 1, 3) := by decide +kernel
theorem dX1_oddsToRead_36 : decode cX1_oddsToRead 36 = .ok (.goto (-31), 3) := by decide +kernel
theorem dX1_oddsToRead_39 : decode cX1_oddsToRead 39 = .ok (.lload_n 2, 1) := by decide +kernel
theorem dX1_oddsToRead_40 : decode cX1_oddsToRead 40 = .ok (.lreturn, 1) := by decide +kernel
theorem dX1_countWays_0 : decode cX1_countWays 0 = .ok (.iload_n 1, 1) := by decide +kernel
theorem dX1_countWays_1 : decode cX1_countWays 1 = .ok (.aload_n 0, 1) := by decide +kernel
theorem dX1_countWays_2 : decode cX1_countWays 2 = .ok (.getfield 25, 3) := by decide +kernel
theorem dX1_countWays_5 : decode cX1_countWays 5 = .ok (.if_icmp .ne 12, 3) := by decide +kernel
theorem dX1_countWays_8 : decode cX1_countWays 8 = .ok (.iload_n 2, 1) := by decide +kernel
theorem dX1_countWays_9 : decode cX1_countWays 9 = .ok (.aload_n 0, 1) := by decide +kernel
theorem dX1_countWays_10 : decode cX1_countWays 10 = .ok (.getfield 29, 3) := by decide +kernel
theorem dX1_countWays_13 : decode cX1_countWays 13 = .ok (.if_icmp .ne 4, 3) := by decide +kernel
theorem dX1_countWays_16 : decode cX1_countWays 16 = .ok (.return_, 1) := by decide +kernel
theorem dX1_countWays_17 : decode cX1_countWays 17 = .ok (.aload_n 0, 1) := by decide +kernel
theorem dX1_countWays_18 : decode cX1_countWays 18 = .ok (.iload_n 1, 1) := by decide +kernel
theorem dX1_countWays_19 : decode cX1_countWays 19 = .ok (.putfield 25, 3) := by decide +kernel
theorem dX1_countWays_22 : decode cX1_countWays 22 = .ok (.aload_n 0, 1) := by decide +kernel
theorem dX1_countWays_23 : decode cX1_countWays 23 = .ok (.iload_n 2, 1) := by decide +kernel
theorem dX1_countWays_24 : decode cX1_countWays 24 = .ok (.putfield 29, 3) := by decide +kernel
theorem dX1_countWays_27 : decode cX1_countWays 27 = .ok (.iconst 0, 1) := by decide +kernel
theorem dX1_countWays_28 : decode cX1_countWays 28 = .ok (.istore_n 3, 1) := by decide +kernel
theorem dX1_countWays_29 : decode cX1_countWays 29 = .ok (.iload_n 3, 1) := by decide +kernel
theorem dX1_countWays_30 : decode cX1_countWays 30 = .ok (.bipush 26, 2) := by decide +kernel
theorem dX1_countWays_32 : decode cX1_countWays 32 = .ok (.if_icmp .ge 19, 3) := by decide +kernel
theorem dX1_countWays_35 : decode cX1_countWays 35 = .ok (.aload_n 0, 1) := by decide +kernel
theorem dX1_countWays_36 : decode cX1_countWays 36 = .ok (.getfield 18, 3) := by decide +kernel
theorem dX1_countWays_39 : decode cX1_countWays 39 = .ok (.iload_n 3, 1) := by decide +kernel
theorem dX1_countWays_40 : decode cX1_countWays 40 = .ok (.aaload, 1) := by decide +kernel
theorem dX1_countWays_41 : decode cX1_countWays 41 = .ok (.iconst 0, 1) := by decide +kernel
theorem dX1_countWays_42 : decode cX1_countWays 42 = .ok (.invokestatic 56, 3) := by decide +kernel
theorem dX1_countWays_45 : decode cX1_countWays 45 = .ok (.iinc 3 1, 3) := by decide +kernel
theorem dX1_countWays_48 : decode cX1_countWays 48 = .ok (.goto (-19), 3) := by decide +kernel
theorem dX1_countWays_51 : decode cX1_countWays 51 = .ok (.iconst 0, 1) := by decide +kernel
theorem dX1_countWays_52 : decode cX1_countWays 52 = .ok (.istore_n 3, 1) := by decide +kernel
theorem dX1_countWays_53 : decode cX1_countWays 53 = .ok (.iload_n 3, 1) := by decide +kernel
theorem dX1_countWays_54 : decode cX1_countWays 54 = .ok (.sipush 512, 3) := by decide +kernel
theorem dX1_countWays_57 : decode cX1_countWays 57 = .ok (.if_icmp .ge 16, 3) := by decide +kernel
theorem dX1_countWays_60 : decode cX1_countWays 60 = .ok (.aload_n 0, 1) := by decide +kernel
theorem dX1_countWays_61 : decode cX1_countWays 61 = .ok (.iload_n 3, 1) := by decide +kernel
theorem dX1_countWays_62 : decode cX1_countWays 62 = .ok (.iload_n 1, 1) := by decide +kernel
theorem dX1_countWays_63 : decode cX1_countWays 63 = .ok (.iload_n 2, 1) := by decide +kernel
theorem dX1_countWays_64 : decode cX1_countWays 64 = .ok (.invokevirtual 62, 3) := by decide +kernel
theorem dX1_countWays_67 : decode cX1_countWays 67 = .ok (.iinc 3 1, 3) := by decide +kernel
theorem dX1_countWays_70 : decode cX1_countWays 70 = .ok (.goto (-17), 3) := by decide +kernel
theorem dX1_countWays_73 : decode cX1_countWays 73 = .ok (.return_, 1) := by decide +kernel
theorem dX1_countWaysOf_0 : decode cX1_countWaysOf 0 = .ok (.ldc2_w 66, 3) := by decide +kernel
theorem dX1_countWaysOf_3 : decode cX1_countWaysOf 3 = .ok (.lstore 4, 2) := by decide +kernel
theorem dX1_countWaysOf_5 : decode cX1_countWaysOf 5 = .ok (.iconst 0, 1) := by decide +kernel
theorem dX1_countWaysOf_6 : decode cX1_countWaysOf 6 = .ok (.istore 6, 2) := by decide +kernel
theorem dX1_countWaysOf_8 : decode cX1_countWaysOf 8 = .ok (.iload 6, 2) := by decide +kernel
theorem dX1_countWaysOf_10 : decode cX1_countWaysOf 10 = .ok (.iload_n 3, 1) := by decide +kernel
theorem dX1_countWaysOf_11 : decode cX1_countWaysOf 11 = .ok (.if_icmp .gt 100, 3) := by decide +kernel
theorem dX1_countWaysOf_14 : decode cX1_countWaysOf 14 = .ok (.lload 4, 2) := by decide +kernel
theorem dX1_countWaysOf_16 : decode cX1_countWaysOf 16 = .ok (.lconst 0, 1) := by decide +kernel
theorem dX1_countWaysOf_17 : decode cX1_countWaysOf 17 = .ok (.lcmp, 1) := by decide +kernel
theorem dX1_countWaysOf_18 : decode cX1_countWaysOf 18 = .ok (.ifCond .eq 93, 3) := by decide +kernel
theorem dX1_countWaysOf_21 : decode cX1_countWaysOf 21 = .ok (.iconst 0, 1) := by decide +kernel
theorem dX1_countWaysOf_22 : decode cX1_countWaysOf 22 = .ok (.istore 7, 2) := by decide +kernel
theorem dX1_countWaysOf_24 : decode cX1_countWaysOf 24 = .ok (.iload 7, 2) := by decide +kernel
theorem dX1_countWaysOf_26 : decode cX1_countWaysOf 26 = .ok (.bipush 26, 2) := by decide +kernel
theorem dX1_countWaysOf_28 : decode cX1_countWaysOf 28 = .ok (.if_icmp .ge 77, 3) := by decide +kernel
theorem dX1_countWaysOf_31 : decode cX1_countWaysOf 31 = .ok (.iload 6, 2) := by decide +kernel
theorem dX1_countWaysOf_33 : decode cX1_countWaysOf 33 = .ok (.iload_n 1, 1) := by decide +kernel
theorem dX1_countWaysOf_34 : decode cX1_countWaysOf 34 = .ok (.iload 7, 2) := by decide +kernel
theorem dX1_countWaysOf_36 : decode cX1_countWaysOf 36 = .ok (.invokestatic 68, 3) := by decide +kernel
theorem dX1_countWaysOf_39 : decode cX1_countWaysOf 39 = .ok (.isub, 1) := by decide +kernel
theorem dX1_countWaysOf_40 : decode cX1_countWaysOf 40 = .ok (.istore 8, 2) := by decide +kernel
theorem dX1_countWaysOf_42 : decode cX1_countWaysOf 42 = .ok (.iload 8, 2) := by decide +kernel
theorem dX1_countWaysOf_44 : decode cX1_countWaysOf 44 = .ok (.ifCond .lt 55, 3) := by decide +kernel
theorem dX1_countWaysOf_47 : decode cX1_countWaysOf 47 = .ok (.iload 8, 2) := by decide +kernel
theorem dX1_countWaysOf_49 : decode cX1_countWaysOf 49 = .ok (.bipush 6, 2) := by decide +kernel
theorem dX1_countWaysOf_51 : decode cX1_countWaysOf 51 = .ok (.if_icmp .gt 48, 3) := by decide +kernel
theorem dX1_countWaysOf_54 : decode cX1_countWaysOf 54 = .ok (.lload 4, 2) := by decide +kernel
theorem dX1_countWaysOf_56 : decode cX1_countWaysOf 56 = .ok (.aload_n 0, 1) := by decide +kernel
theorem dX1_countWaysOf_57 : decode cX1_countWaysOf 57 = .ok (.getfield 13, 3) := by decide +kernel
theorem dX1_countWaysOf_60 : decode cX1_countWaysOf 60 = .ok (.iload 7, 2) := by decide +kernel
theorem dX1_countWaysOf_62 : decode cX1_countWaysOf 62 = .ok (.aaload, 1) := by decide +kernel
theorem dX1_countWaysOf_63 : decode cX1_countWaysOf 63 = .ok (.iload 8, 2) := by decide +kernel
theorem dX1_countWaysOf_65 : decode cX1_countWaysOf 65 = .ok (.laload, 1) := by decide +kernel
theorem dX1_countWaysOf_66 : decode cX1_countWaysOf 66 = .ok (.land, 1) := by decide +kernel
theorem dX1_countWaysOf_67 : decode cX1_countWaysOf 67 = .ok (.lstore 9, 2) := by decide +kernel
theorem dX1_countWaysOf_69 : decode cX1_countWaysOf 69 = .ok (.lload 4, 2) := by decide +kernel
theorem dX1_countWaysOf_71 : decode cX1_countWaysOf 71 = .ok (.lload 9, 2) := by decide +kernel
theorem dX1_countWaysOf_73 : decode cX1_countWaysOf 73 = .ok (.ldc2_w 66, 3) := by decide +kernel
theorem dX1_countWaysOf_76 : decode cX1_countWaysOf 76 = .ok (.lxor, 1) := by decide +kernel
theorem dX1_countWaysOf_77 : decode cX1_countWaysOf 77 = .ok (.land, 1) := by decide +kernel
theorem dX1_countWaysOf_78 : decode cX1_countWaysOf 78 = .ok (.lstore 4, 2) := by decide +kernel
theorem dX1_countWaysOf_80 : decode cX1_countWaysOf 80 = .ok (.aload_n 0, 1) := by decide +kernel
theorem dX1_countWaysOf_81 : decode cX1_countWaysOf 81 = .ok (.aload_n 0, 1) := by decide +kernel
theorem dX1_countWaysOf_82 : decode cX1_countWaysOf 82 = .ok (.getfield 18, 3) := by decide +kernel
theorem dX1_countWaysOf_85 : decode cX1_countWaysOf 85 = .ok (.iload 7, 2) := by decide +kernel
theorem dX1_countWaysOf_87 : decode cX1_countWaysOf 87 = .ok (.aaload, 1) := by decide +kernel
theorem dX1_countWaysOf_88 : decode cX1_countWaysOf 88 = .ok (.lload 9, 2) := by decide +kernel
theorem dX1_countWaysOf_90 : decode cX1_countWaysOf 90 = .ok (.iload_n 2, 1) := by decide +kernel
theorem dX1_countWaysOf_91 : decode cX1_countWaysOf 91 = .ok (.iload_n 1, 1) := by decide +kernel
theorem dX1_countWaysOf_92 : decode cX1_countWaysOf 92 = .ok (.iload_n 2, 1) := by decide +kernel
theorem dX1_countWaysOf_93 : decode cX1_countWaysOf 93 = .ok (.invokestatic 68, 3) := by decide +kernel
theorem dX1_countWaysOf_96 : decode cX1_countWaysOf 96 = .ok (.invokevirtual 72, 3) := by decide +kernel
theorem dX1_countWaysOf_99 : decode cX1_countWaysOf 99 = .ok (.iinc 7 1, 3) := by decide +kernel
theorem dX1_countWaysOf_102 : decode cX1_countWaysOf 102 = .ok (.goto (-78), 3) := by decide +kernel
theorem dX1_countWaysOf_105 : decode cX1_countWaysOf 105 = .ok (.iinc 6 1, 3) := by decide +kernel
theorem dX1_countWaysOf_108 : decode cX1_countWaysOf 108 = .ok (.goto (-100), 3) := by decide +kernel
theorem dX1_countWaysOf_111 : decode cX1_countWaysOf 111 = .ok (.return_, 1) := by decide +kernel
theorem dX1_addWays_0 : decode cX1_addWays 0 = .ok (.iconst 0, 1) := by decide +kernel
theorem dX1_addWays_1 : decode cX1_addWays 1 = .ok (.istore 6, 2) := by decide +kernel
theorem dX1_addWays_3 : decode cX1_addWays 3 = .ok (.iload 6, 2) := by decide +kernel
theorem dX1_addWays_5 : decode cX1_addWays 5 = .ok (.bipush 6, 2) := by decide +kernel
theorem dX1_addWays_7 : decode cX1_addWays 7 = .ok (.if_icmp .gt 40, 3) := by decide +kernel
theorem dX1_addWays_10 : decode cX1_addWays 10 = .ok (.lload_n 2, 1) := by decide +kernel
theorem dX1_addWays_11 : decode cX1_addWays 11 = .ok (.lconst 0, 1) := by decide +kernel
theorem dX1_addWays_12 : decode cX1_addWays 12 = .ok (.lcmp, 1) := by decide +kernel
theorem dX1_addWays_13 : decode cX1_addWays 13 = .ok (.ifCond .eq 34, 3) := by decide +kernel
theorem dX1_addWays_16 : decode cX1_addWays 16 = .ok (.aload_n 1, 1) := by decide +kernel
theorem dX1_addWays_17 : decode cX1_addWays 17 = .ok (.iload 5, 2) := by decide +kernel
theorem dX1_addWays_19 : decode cX1_addWays 19 = .ok (.iload 6, 2) := by decide +kernel
theorem dX1_addWays_21 : decode cX1_addWays 21 = .ok (.iadd, 1) := by decide +kernel
theorem dX1_addWays_22 : decode cX1_addWays 22 = .ok (.dup2, 1) := by decide +kernel
theorem dX1_addWays_23 : decode cX1_addWays 23 = .ok (.iaload, 1) := by decide +kernel
theorem dX1_addWays_24 : decode cX1_addWays 24 = .ok (.lload_n 2, 1) := by decide +kernel
theorem dX1_addWays_25 : decode cX1_addWays 25 = .ok (.aload_n 0, 1) := by decide +kernel
theorem dX1_addWays_26 : decode cX1_addWays 26 = .ok (.getfield 13, 3) := by decide +kernel
theorem dX1_addWays_29 : decode cX1_addWays 29 = .ok (.iload 4, 2) := by decide +kernel
theorem dX1_addWays_31 : decode cX1_addWays 31 = .ok (.aaload, 1) := by decide +kernel
theorem dX1_addWays_32 : decode cX1_addWays 32 = .ok (.iload 6, 2) := by decide +kernel
theorem dX1_addWays_34 : decode cX1_addWays 34 = .ok (.laload, 1) := by decide +kernel
theorem dX1_addWays_35 : decode cX1_addWays 35 = .ok (.land, 1) := by decide +kernel
theorem dX1_addWays_36 : decode cX1_addWays 36 = .ok (.invokestatic 76, 3) := by decide +kernel
theorem dX1_addWays_39 : decode cX1_addWays 39 = .ok (.iadd, 1) := by decide +kernel
theorem dX1_addWays_40 : decode cX1_addWays 40 = .ok (.iastore, 1) := by decide +kernel
theorem dX1_addWays_41 : decode cX1_addWays 41 = .ok (.iinc 6 1, 3) := by decide +kernel
theorem dX1_addWays_44 : decode cX1_addWays 44 = .ok (.goto (-41), 3) := by decide +kernel
theorem dX1_addWays_47 : decode cX1_addWays 47 = .ok (.return_, 1) := by decide +kernel
theorem dX1_highOff_0 : decode cX1_highOff 0 = .ok (.iload_n 0, 1) := by decide +kernel
theorem dX1_highOff_1 : decode cX1_highOff 1 = .ok (.getstatic 32, 3) := by decide +kernel
theorem dX1_highOff_4 : decode cX1_highOff 4 = .ok (.iload_n 1, 1) := by decide +kernel
theorem dX1_highOff_5 : decode cX1_highOff 5 = .ok (.iaload, 1) := by decide +kernel
theorem dX1_highOff_6 : decode cX1_highOff 6 = .ok (.bipush 64, 2) := by decide +kernel
theorem dX1_highOff_8 : decode cX1_highOff 8 = .ok (.idiv, 1) := by decide +kernel
theorem dX1_highOff_9 : decode cX1_highOff 9 = .ok (.ixor, 1) := by decide +kernel
theorem dX1_highOff_10 : decode cX1_highOff 10 = .ok (.invokestatic 36, 3) := by decide +kernel
theorem dX1_highOff_13 : decode cX1_highOff 13 = .ok (.ireturn, 1) := by decide +kernel
theorem dX2_init_0 : decode cX2_init 0 = .ok (.aload_n 0, 1) := by decide +kernel
theorem dX2_init_1 : decode cX2_init 1 = .ok (.invokespecial 3, 3) := by decide +kernel
theorem dX2_init_4 : decode cX2_init 4 = .ok (.aload_n 0, 1) := by decide +kernel
theorem dX2_init_5 : decode cX2_init 5 = .ok (.bipush 9, 2) := by decide +kernel
theorem dX2_init_7 : decode cX2_init 7 = .ok (.bipush 10, 2) := by decide +kernel
theorem dX2_init_9 : decode cX2_init 9 = .ok (.multianewarray 9 2, 4) := by decide +kernel
theorem dX2_init_13 : decode cX2_init 13 = .ok (.putfield 11, 3) := by decide +kernel
theorem dX2_init_16 : decode cX2_init 16 = .ok (.aload_n 0, 1) := by decide +kernel
theorem dX2_init_17 : decode cX2_init 17 = .ok (.bipush 10, 2) := by decide +kernel
theorem dX2_init_19 : decode cX2_init 19 = .ok (.newarray .int, 2) := by decide +kernel
theorem dX2_init_21 : decode cX2_init 21 = .ok (.putfield 16, 3) := by decide +kernel
theorem dX2_init_24 : decode cX2_init 24 = .ok (.aload_n 0, 1) := by decide +kernel
theorem dX2_init_25 : decode cX2_init 25 = .ok (.bipush 9, 2) := by decide +kernel
theorem dX2_init_27 : decode cX2_init 27 = .ok (.newarray .int, 2) := by decide +kernel
theorem dX2_init_29 : decode cX2_init 29 = .ok (.putfield 20, 3) := by decide +kernel
theorem dX2_init_32 : decode cX2_init 32 = .ok (.aload_n 0, 1) := by decide +kernel
theorem dX2_init_33 : decode cX2_init 33 = .ok (.iconst 0, 1) := by decide +kernel
theorem dX2_init_34 : decode cX2_init 34 = .ok (.putfield 23, 3) := by decide +kernel
theorem dX2_init_37 : decode cX2_init 37 = .ok (.return_, 1) := by decide +kernel
theorem dX2_weighWritten_0 : decode cX2_weighWritten 0 = .ok (.iconst 0, 1) := by decide +kernel
theorem dX2_weighWritten_1 : decode cX2_weighWritten 1 = .ok (.istore_n 2, 1) := by decide +kernel
theorem dX2_weighWritten_2 : decode cX2_weighWritten 2 = .ok (.iload_n 2, 1) := by decide +kernel
theorem dX2_weighWritten_3 : decode cX2_weighWritten 3 = .ok (.aload_n 1, 1) := by decide +kernel
theorem dX2_weighWritten_4 : decode cX2_weighWritten 4 = .ok (.getfield 27, 3) := by decide +kernel
theorem dX2_weighWritten_7 : decode cX2_weighWritten 7 = .ok (.if_icmp .ge 62, 3) := by decide +kernel
theorem dX2_weighWritten_10 : decode cX2_weighWritten 10 = .ok (.iconst 0, 1) := by decide +kernel
theorem dX2_weighWritten_11 : decode cX2_weighWritten 11 = .ok (.istore_n 3, 1) := by decide +kernel
theorem dX2_weighWritten_12 : decode cX2_weighWritten 12 = .ok (.iload_n 3, 1) := by decide +kernel
theorem dX2_weighWritten_13 : decode cX2_weighWritten 13 = .ok (.aload_n 1, 1) := by decide +kernel
theorem dX2_weighWritten_14 : decode cX2_weighWritten 14 = .ok (.getfield 32, 3) := by decide +kernel
theorem dX2_weighWritten_17 : decode cX2_weighWritten 17 = .ok (.if_icmp .ge 46, 3) := by decide +kernel
theorem dX2_weighWritten_20 : decode cX2_weighWritten 20 = .ok (.aload_n 1, 1) := by decide +kernel
theorem dX2_weighWritten_21 : decode cX2_weighWritten 21 = .ok (.getfield 35, 3) := by decide +kernel
theorem dX2_weighWritten_24 : decode cX2_weighWritten 24 = .ok (.iload_n 3, 1) := by decide +kernel
theorem dX2_weighWritten_25 : decode cX2_weighWritten 25 = .ok (.aaload, 1) := by decide +kernel
theorem dX2_weighWritten_26 : decode cX2_weighWritten 26 = .ok (.astore 4, 2) := by decide +kernel
theorem dX2_weighWritten_28 : decode cX2_weighWritten 28 = .ok (.aload_n 0, 1) := by decide +kernel
theorem dX2_weighWritten_29 : decode cX2_weighWritten 29 = .ok (.getfield 11, 3) := by decide +kernel
theorem dX2_weighWritten_32 : decode cX2_weighWritten 32 = .ok (.iload_n 2, 1) := by decide +kernel
theorem dX2_weighWritten_33 : decode cX2_weighWritten 33 = .ok (.aaload, 1) := by decide +kernel
theorem dX2_weighWritten_34 : decode cX2_weighWritten 34 = .ok (.iload_n 3, 1) := by decide +kernel
theorem dX2_weighWritten_35 : decode cX2_weighWritten 35 = .ok (.aload_n 1, 1) := by decide +kernel
theorem dX2_weighWritten_36 : decode cX2_weighWritten 36 = .ok (.aload 4, 2) := by decide +kernel
theorem dX2_weighWritten_38 : decode cX2_weighWritten 38 = .ok (.iload_n 2, 1) := by decide +kernel
theorem dX2_weighWritten_39 : decode cX2_weighWritten 39 = .ok (.iconst 0, 1) := by decide +kernel
theorem dX2_weighWritten_40 : decode cX2_weighWritten 40 = .ok (.invokevirtual 39, 3) := by decide +kernel
theorem dX2_weighWritten_43 : decode cX2_weighWritten 43 = .ok (.ifCond .eq 11, 3) := by decide +kernel
theorem dX2_weighWritten_46 : decode cX2_weighWritten 46 = .ok (.aload 4, 2) := by decide +kernel
theorem dX2_weighWritten_48 : decode cX2_weighWritten 48 = .ok (.getfield 43, 3) := by decide +kernel
theorem dX2_weighWritten_51 : decode cX2_weighWritten 51 = .ok (.goto 5, 3) := by decide +kernel
theorem dX2_weighWritten_54 : decode cX2_weighWritten 54 = .ok (.ldc 48, 2) := by decide +kernel
theorem dX2_weighWritten_56 : decode cX2_weighWritten 56 = .ok (.iastore, 1) := by decide +kernel
theorem dX2_weighWritten_57 : decode cX2_weighWritten 57 = .ok (.iinc 3 1, 3) := by decide +kernel
theorem dX2_weighWritten_60 : decode cX2_weighWritten 60 = .ok (.goto (-48), 3) := by decide +kernel
theorem dX2_weighWritten_63 : decode cX2_weighWritten 63 = .ok (.iinc 2 1, 3) := by decide +kernel
theorem dX2_weighWritten_66 : decode cX2_weighWritten 66 = .ok (.goto (-64), 3) := by decide +kernel
theorem dX2_weighWritten_69 : decode cX2_weighWritten 69 = .ok (.return_, 1) := by decide +kernel
theorem dX2_weighAllowed_0 : decode cX2_weighAllowed 0 = .ok (.iconst 0, 1) := by decide +kernel
theorem dX2_weighAllowed_1 : decode cX2_weighAllowed 1 = .ok (.istore_n 2, 1) := by decide +kernel
theorem dX2_weighAllowed_2 : decode cX2_weighAllowed 2 = .ok (.iload_n 2, 1) := by decide +kernel
theorem dX2_weighAllowed_3 : decode cX2_weighAllowed 3 = .ok (.aload_n 1, 1) := by decide +kernel
theorem dX2_weighAllowed_4 : decode cX2_weighAllowed 4 = .ok (.getfield 27, 3) := by decide +kernel
theorem dX2_weighAllowed_7 : decode cX2_weighAllowed 7 = .ok (.if_icmp .ge 69, 3) := by decide +kernel
theorem dX2_weighAllowed_10 : decode cX2_weighAllowed 10 = .ok (.iconst 0, 1) := by decide +kernel
theorem dX2_weighAllowed_11 : decode cX2_weighAllowed 11 = .ok (.istore_n 3, 1) := by decide +kernel
theorem dX2_weighAllowed_12 : decode cX2_weighAllowed 12 = .ok (.iload_n 3, 1) := by decide +kernel
theorem dX2_weighAllowed_13 : decode cX2_weighAllowed 13 = .ok (.aload_n 1, 1) := by decide +kernel
theorem dX2_weighAllowed_14 : decode cX2_weighAllowed 14 = .ok (.getfield 32, 3) := by decide +kernel
theorem dX2_weighAllowed_17 : decode cX2_weighAllowed 17 = .ok (.if_icmp .ge 53, 3) := by decide +kernel
theorem dX2_weighAllowed_20 : decode cX2_weighAllowed 20 = .ok (.aload_n 1, 1) := by decide +kernel
theorem dX2_weighAllowed_21 : decode cX2_weighAllowed 21 = .ok (.getfield 35, 3) := by decide +kernel
theorem dX2_weighAllowed_24 : decode cX2_weighAllowed 24 = .ok (.iload_n 3, 1) := by decide +kernel
theorem dX2_weighAllowed_25 : decode cX2_weighAllowed 25 = .ok (.aaload, 1) := by decide +kernel
theorem dX2_weighAllowed_26 : decode cX2_weighAllowed 26 = .ok (.astore 4, 2) := by decide +kernel
theorem dX2_weighAllowed_28 : decode cX2_weighAllowed 28 = .ok (.aload_n 0, 1) := by decide +kernel
theorem dX2_weighAllowed_29 : decode cX2_weighAllowed 29 = .ok (.getfield 11, 3) := by decide +kernel
theorem dX2_weighAllowed_32 : decode cX2_weighAllowed 32 = .ok (.iload_n 2, 1) := by decide +kernel
theorem dX2_weighAllowed_33 : decode cX2_weighAllowed 33 = .ok (.aaload, 1) := by decide +kernel
theorem dX2_weighAllowed_34 : decode cX2_weighAllowed 34 = .ok (.iload_n 3, 1) := by decide +kernel
theorem dX2_weighAllowed_35 : decode cX2_weighAllowed 35 = .ok (.aload_n 1, 1) := by decide +kernel
theorem dX2_weighAllowed_36 : decode cX2_weighAllowed 36 = .ok (.aload 4, 2) := by decide +kernel
theorem dX2_weighAllowed_38 : decode cX2_weighAllowed 38 = .ok (.iload_n 2, 1) := by decide +kernel
theorem dX2_weighAllowed_39 : decode cX2_weighAllowed 39 = .ok (.invokevirtual 49, 3) := by decide +kernel
theorem dX2_weighAllowed_42 : decode cX2_weighAllowed 42 = .ok (.ifCond .eq 19, 3) := by decide +kernel
theorem dX2_weighAllowed_45 : decode cX2_weighAllowed 45 = .ok (.aload 4, 2) := by decide +kernel
theorem dX2_weighAllowed_47 : decode cX2_weighAllowed 47 = .ok (.getfield 43, 3) := by decide +kernel
theorem dX2_weighAllowed_50 : decode cX2_weighAllowed 50 = .ok (.aload_n 1, 1) := by decide +kernel
theorem dX2_weighAllowed_51 : decode cX2_weighAllowed 51 = .ok (.aload 4, 2) := by decide +kernel
theorem dX2_weighAllowed_53 : decode cX2_weighAllowed 53 = .ok (.iload_n 2, 1) := by decide +kernel
theorem dX2_weighAllowed_54 : decode cX2_weighAllowed 54 = .ok (.invokevirtual 53, 3) := by decide +kernel
theorem dX2_weighAllowed_57 : decode cX2_weighAllowed 57 = .ok (.isub, 1) := by decide +kernel
theorem dX2_weighAllowed_58 : decode cX2_weighAllowed 58 = .ok (.goto 5, 3) := by decide +kernel
theorem dX2_weighAllowed_61 : decode cX2_weighAllowed 61 = .ok (.ldc 48, 2) := by decide +kernel
theorem dX2_weighAllowed_63 : decode cX2_weighAllowed 63 = .ok (.iastore, 1) := by decide +kernel
theorem dX2_weighAllowed_64 : decode cX2_weighAllowed 64 = .ok (.iinc 3 1, 3) := by decide +kernel
theorem dX2_weighAllowed_67 : decode cX2_weighAllowed 67 = .ok (.goto (-55), 3) := by decide +kernel
theorem dX2_weighAllowed_70 : decode cX2_weighAllowed 70 = .ok (.iinc 2 1, 3) := by decide +kernel
theorem dX2_weighAllowed_73 : decode cX2_weighAllowed 73 = .ok (.goto (-71), 3) := by decide +kernel
theorem dX2_weighAllowed_76 : decode cX2_weighAllowed 76 = .ok (.return_, 1) := by decide +kernel
theorem dX2_choose_0 : decode cX2_choose 0 = .ok (.aload_n 0, 1) := by decide +kernel
theorem dX2_choose_1 : decode cX2_choose 1 = .ok (.aload_n 1, 1) := by decide +kernel
theorem dX2_choose_2 : decode cX2_choose 2 = .ok (.invokevirtual 57, 3) := by decide +kernel
theorem dX2_choose_5 : decode cX2_choose 5 = .ok (.aload_n 0, 1) := by decide +kernel
theorem dX2_choose_6 : decode cX2_choose 6 = .ok (.iconst 0, 1) := by decide +kernel
theorem dX2_choose_7 : decode cX2_choose 7 = .ok (.putfield 23, 3) := by decide +kernel
theorem dX2_choose_10 : decode cX2_choose 10 = .ok (.iconst 0, 1) := by decide +kernel
theorem dX2_choose_11 : decode cX2_choose 11 = .ok (.istore_n 2, 1) := by decide +kernel
theorem dX2_choose_12 : decode cX2_choose 12 = .ok (.iconst 0, 1) := by decide +kernel
theorem dX2_choose_13 : decode cX2_choose 13 = .ok (.istore_n 3, 1) := by decide +kernel
theorem dX2_choose_14 : decode cX2_choose 14 = .ok (.iload_n 3, 1) := by decide +kernel
theorem dX2_choose_15 : decode cX2_choose 15 = .ok (.aload_n 1, 1) := by decide +kernel
theorem dX2_choose_16 : decode cX2_choose 16 = .ok (.getfield 27, 3) := by decide +kernel
theorem dX2_choose_19 : decode cX2_choose 19 = .ok (.if_icmp .ge 73, 3) := by decide +kernel
theorem dX2_choose_22 : decode cX2_choose 22 = .ok (.iload_n 3, 1) := by decide +kernel
theorem dX2_choose_23 : decode cX2_choose 23 = .ok (.iload_n 2, 1) := by decide +kernel
theorem dX2_choose_24 : decode cX2_choose 24 = .ok (.if_icmp .ge 8, 3) := by decide +kernel
theorem dX2_choose_27 : decode cX2_choose 27 = .ok (.bipush (-4), 2) := by decide +kernel
theorem dX2_choose_29 : decode cX2_choose 29 = .ok (.goto 9, 3) := by decide +kernel
theorem dX2_choose_32 : decode cX2_choose 32 = .ok (.aload_n 0, 1) := by decide +kernel
theorem dX2_choose_33 : decode cX2_choose 33 = .ok (.aload_n 1, 1) := by decide +kernel
theorem dX2_choose_34 : decode cX2_choose 34 = .ok (.iload_n 3, 1) := by decide +kernel
theorem dX2_choose_35 : decode cX2_choose 35 = .ok (.invokevirtual 61, 3) := by decide +kernel
theorem dX2_choose_38 : decode cX2_choose 38 = .ok (.istore 4, 2) := by decide +kernel
theorem dX2_choose_40 : decode cX2_choose 40 = .ok (.iload 4, 2) := by decide +kernel
theorem dX2_choose_42 : decode cX2_choose 42 = .ok (.bipush (-4), 2) := by decide +kernel
theorem dX2_choose_44 : decode cX2_choose 44 = .ok (.if_icmp .eq 42, 3) := by decide +kernel
theorem dX2_choose_47 : decode cX2_choose 47 = .ok (.aload_n 0, 1) := by decide +kernel
theorem dX2_choose_48 : decode cX2_choose 48 = .ok (.getfield 20, 3) := by decide +kernel
theorem dX2_choose_51 : decode cX2_choose 51 = .ok (.aload_n 0, 1) := by decide +kernel
theorem dX2_choose_52 : decode cX2_choose 52 = .ok (.getfield 23, 3) := by decide +kernel
theorem dX2_choose_55 : decode cX2_choose 55 = .ok (.bipush 10, 2) := by decide +kernel
theorem dX2_choose_57 : decode cX2_choose 57 = .ok (.iload_n 3, 1) := by decide +kernel
theorem dX2_choose_58 : decode cX2_choose 58 = .ok (.imul, 1) := by decide +kernel
theorem dX2_choose_59 : decode cX2_choose 59 = .ok (.iload 4, 2) := by decide +kernel
theorem dX2_choose_61 : decode cX2_choose 61 = .ok (.iadd, 1) := by decide +kernel
theorem dX2_choose_62 : decode cX2_choose 62 = .ok (.iastore, 1) := by decide +kernel
theorem dX2_choose_63 : decode cX2_choose 63 = .ok (.aload_n 0, 1) := by decide +kernel
theorem dX2_choose_64 : decode cX2_choose 64 = .ok (.dup, 1) := by decide +kernel
theorem dX2_choose_65 : decode cX2_choose 65 = .ok (.getfield 23, 3) := by decide +kernel
theorem dX2_choose_68 : decode cX2_choose 68 = .ok (.iconst 1, 1) := by decide +kernel
theorem dX2_choose_69 : decode cX2_choose 69 = .ok (.iadd, 1) := by decide +kernel
theorem dX2_choose_70 : decode cX2_choose 70 = .ok (.putfield 23, 3) := by decide +kernel
theorem dX2_choose_73 : decode cX2_choose 73 = .ok (.iload_n 3, 1) := by decide +kernel
theorem dX2_choose_74 : decode cX2_choose 74 = .ok (.aload_n 1, 1) := by decide +kernel
theorem dX2_choose_75 : decode cX2_choose 75 = .ok (.getfield 35, 3) := by decide +kernel
theorem dX2_choose_78 : decode cX2_choose 78 = .ok (.iload 4, 2) := by decide +kernel
theorem dX2_choose_80 : decode cX2_choose 80 = .ok (.aaload, 1) := by decide +kernel
theorem dX2_choose_81 : decode cX2_choose 81 = .ok (.getfield 65, 3) := by decide +kernel
theorem dX2_choose_84 : decode cX2_choose 84 = .ok (.iadd, 1) := by decide +kernel
theorem dX2_choose_85 : decode cX2_choose 85 = .ok (.istore_n 2, 1) := by decide +kernel
theorem dX2_choose_86 : decode cX2_choose 86 = .ok (.iinc 3 1, 3) := by decide +kernel
theorem dX2_choose_89 : decode cX2_choose 89 = .ok (.goto (-75), 3) := by decide +kernel
theorem dX2_choose_92 : decode cX2_choose 92 = .ok (.return_, 1) := by decide +kernel
theorem dX2_answer_0 : decode cX2_answer 0 = .ok (.iload_n 1, 1) := by decide +kernel
theorem dX2_answer_1 : decode cX2_answer 1 = .ok (.iconst (-1), 1) := by decide +kernel
theorem dX2_answer_2 : decode cX2_answer 2 = .ok (.if_icmp .ne 10, 3) := by decide +kernel
theorem dX2_answer_5 : decode cX2_answer 5 = .ok (.aload_n 0, 1) := by decide +kernel
theorem dX2_answer_6 : decode cX2_answer 6 = .ok (.getfield 16, 3) := by decide +kernel
theorem dX2_answer_9 : decode cX2_answer 9 = .ok (.iconst 0, 1) := by decide +kernel
theorem dX2_answer_10 : decode cX2_answer 10 = .ok (.iaload, 1) := by decide +kernel
theorem dX2_answer_11 : decode cX2_answer 11 = .ok (.ireturn, 1) := by decide +kernel
theorem dX2_answer_12 : decode cX2_answer 12 = .ok (.iload_n 1, 1) := by decide +kernel
theorem dX2_answer_13 : decode cX2_answer 13 = .ok (.bipush (-2), 2) := by decide +kernel
theorem dX2_answer_15 : decode cX2_answer 15 = .ok (.if_icmp .ne 8, 3) := by decide +kernel
theorem dX2_answer_18 : decode cX2_answer 18 = .ok (.aload_n 0, 1) := by decide +kernel
theorem dX2_answer_19 : decode cX2_answer 19 = .ok (.getfield 23, 3) := by decide +kernel
theorem dX2_answer_22 : decode cX2_answer 22 = .ok (.ireturn, 1) := by decide +kernel
theorem dX2_answer_23 : decode cX2_answer 23 = .ok (.iload_n 1, 1) := by decide +kernel
theorem dX2_answer_24 : decode cX2_answer 24 = .ok (.aload_n 0, 1) := by decide +kernel
theorem dX2_answer_25 : decode cX2_answer 25 = .ok (.getfield 23, 3) := by decide +kernel
theorem dX2_answer_28 : decode cX2_answer 28 = .ok (.invokestatic 66, 3) := by decide +kernel
theorem dX2_answer_31 : decode cX2_answer 31 = .ok (.ifCond .eq 12, 3) := by decide +kernel
theorem dX2_answer_34 : decode cX2_answer 34 = .ok (.aload_n 0, 1) := by decide +kernel
theorem dX2_answer_35 : decode cX2_answer 35 = .ok (.getfield 20, 3) := by decide +kernel
theorem dX2_answer_38 : decode cX2_answer 38 = .ok (.iload_n 1, 1) := by decide +kernel
theorem dX2_answer_39 : decode cX2_answer 39 = .ok (.iaload, 1) := by decide +kernel
theorem dX2_answer_40 : decode cX2_answer 40 = .ok (.goto 5, 3) := by decide +kernel
theorem dX2_answer_43 : decode cX2_answer 43 = .ok (.bipush (-4), 2) := by decide +kernel
theorem dX2_answer_45 : decode cX2_answer 45 = .ok (.ireturn, 1) := by decide +kernel
theorem dX2_sumUp_0 : decode cX2_sumUp 0 = .ok (.aload_n 0, 1) := by decide +kernel
theorem dX2_sumUp_1 : decode cX2_sumUp 1 = .ok (.getfield 16, 3) := by decide +kernel
theorem dX2_sumUp_4 : decode cX2_sumUp 4 = .ok (.aload_n 1, 1) := by decide +kernel
theorem dX2_sumUp_5 : decode cX2_sumUp 5 = .ok (.getfield 27, 3) := by decide +kernel
theorem dX2_sumUp_8 : decode cX2_sumUp 8 = .ok (.iconst 0, 1) := by decide +kernel
theorem dX2_sumUp_9 : decode cX2_sumUp 9 = .ok (.iastore, 1) := by decide +kernel
theorem dX2_sumUp_10 : decode cX2_sumUp 10 = .ok (.aload_n 1, 1) := by decide +kernel
theorem dX2_sumUp_11 : decode cX2_sumUp 11 = .ok (.getfield 27, 3) := by decide +kernel
theorem dX2_sumUp_14 : decode cX2_sumUp 14 = .ok (.iconst 1, 1) := by decide +kernel
theorem dX2_sumUp_15 : decode cX2_sumUp 15 = .ok (.isub, 1) := by decide +kernel
theorem dX2_sumUp_16 : decode cX2_sumUp 16 = .ok (.istore_n 2, 1) := by decide +kernel
theorem dX2_sumUp_17 : decode cX2_sumUp 17 = .ok (.iload_n 2, 1) := by decide +kernel
theorem dX2_sumUp_18 : decode cX2_sumUp 18 = .ok (.ifCond .lt 74, 3) := by decide +kernel
theorem dX2_sumUp_21 : decode cX2_sumUp 21 = .ok (.aload_n 0, 1) := by decide +kernel
theorem dX2_sumUp_22 : decode cX2_sumUp 22 = .ok (.getfield 16, 3) := by decide +kernel
theorem dX2_sumUp_25 : decode cX2_sumUp 25 = .ok (.iload_n 2, 1) := by decide +kernel
theorem dX2_sumUp_26 : decode cX2_sumUp 26 = .ok (.aload_n 0, 1) := by decide +kernel
theorem dX2_sumUp_27 : decode cX2_sumUp 27 = .ok (.getfield 16, 3) := by decide +kernel
theorem dX2_sumUp_30 : decode cX2_sumUp 30 = .ok (.iload_n 2, 1) := by decide +kernel
theorem dX2_sumUp_31 : decode cX2_sumUp 31 = .ok (.iconst 1, 1) := by decide +kernel
theorem dX2_sumUp_32 : decode cX2_sumUp 32 = .ok (.iadd, 1) := by decide +kernel
theorem dX2_sumUp_33 : decode cX2_sumUp 33 = .ok (.iaload, 1) := by decide +kernel
theorem dX2_sumUp_34 : decode cX2_sumUp 34 = .ok (.iastore, 1) := by decide +kernel
theorem dX2_sumUp_35 : decode cX2_sumUp 35 = .ok (.iconst 0, 1) := by decide +kernel
theorem dX2_sumUp_36 : decode cX2_sumUp 36 = .ok (.istore_n 3, 1) := by decide +kernel
theorem dX2_sumUp_37 : decode cX2_sumUp 37 = .ok (.iload_n 3, 1) := by decide +kernel
theorem dX2_sumUp_38 : decode cX2_sumUp 38 = .ok (.aload_n 1, 1) := by decide +kernel
theorem dX2_sumUp_39 : decode cX2_sumUp 39 = .ok (.getfield 32, 3) := by decide +kernel
theorem dX2_sumUp_42 : decode cX2_sumUp 42 = .ok (.if_icmp .ge 44, 3) := by decide +kernel
theorem dX2_sumUp_45 : decode cX2_sumUp 45 = .ok (.aload_n 0, 1) := by decide +kernel
theorem dX2_sumUp_46 : decode cX2_sumUp 46 = .ok (.getfield 11, 3) := by decide +kernel
theorem dX2_sumUp_49 : decode cX2_sumUp 49 = .ok (.iload_n 2, 1) := by decide +kernel
theorem dX2_sumUp_50 : decode cX2_sumUp 50 = .ok (.aaload, 1) := by decide +kernel
theorem dX2_sumUp_51 : decode cX2_sumUp 51 = .ok (.iload_n 3, 1) := by decide +kernel
theorem dX2_sumUp_52 : decode cX2_sumUp 52 = .ok (.iaload, 1) := by decide +kernel
theorem dX2_sumUp_53 : decode cX2_sumUp 53 = .ok (.ldc 48, 2) := by decide +kernel
theorem dX2_sumUp_55 : decode cX2_sumUp 55 = .ok (.if_icmp .eq 25, 3) := by decide +kernel
theorem dX2_sumUp_58 : decode cX2_sumUp 58 = .ok (.aload_n 0, 1) := by decide +kernel
theorem dX2_sumUp_59 : decode cX2_sumUp 59 = .ok (.getfield 16, 3) := by decide +kernel
theorem dX2_sumUp_62 : decode cX2_sumUp 62 = .ok (.iload_n 2, 1) := by decide +kernel
theorem dX2_sumUp_63 : decode cX2_sumUp 63 = .ok (.aload_n 0, 1) := by decide +kernel
theorem dX2_sumUp_64 : decode cX2_sumUp 64 = .ok (.getfield 16, 3) := by decide +kernel
theorem dX2_sumUp_67 : decode cX2_sumUp 67 = .ok (.iload_n 2, 1) := by decide +kernel
theorem dX2_sumUp_68 : decode cX2_sumUp 68 = .ok (.iaload, 1) := by decide +kernel
theorem dX2_sumUp_69 : decode cX2_sumUp 69 = .ok (.aload_n 0, 1) := by decide +kernel
theorem dX2_sumUp_70 : decode cX2_sumUp 70 = .ok (.aload_n 1, 1) := by decide +kernel
theorem dX2_sumUp_71 : decode cX2_sumUp 71 = .ok (.iload_n 2, 1) := by decide +kernel
theorem dX2_sumUp_72 : decode cX2_sumUp 72 = .ok (.iload_n 3, 1) := by decide +kernel
theorem dX2_sumUp_73 : decode cX2_sumUp 73 = .ok (.invokevirtual 70, 3) := by decide +kernel
theorem dX2_sumUp_76 : decode cX2_sumUp 76 = .ok (.invokestatic 74, 3) := by decide +kernel
theorem dX2_sumUp_79 : decode cX2_sumUp 79 = .ok (.iastore, 1) := by decide +kernel
theorem dX2_sumUp_80 : decode cX2_sumUp 80 = .ok (.iinc 3 1, 3) := by decide +kernel
theorem dX2_sumUp_83 : decode cX2_sumUp 83 = .ok (.goto (-46), 3) := by decide +kernel
theorem dX2_sumUp_86 : decode cX2_sumUp 86 = .ok (.iinc 2 (-1), 3) := by decide +kernel
theorem dX2_sumUp_89 : decode cX2_sumUp 89 = .ok (.goto (-72), 3) := by decide +kernel
theorem dX2_sumUp_92 : decode cX2_sumUp 92 = .ok (.return_, 1) := by decide +kernel
theorem dX2_mostBy_0 : decode cX2_mostBy 0 = .ok (.aload_n 0, 1) := by decide +kernel
theorem dX2_mostBy_1 : decode cX2_mostBy 1 = .ok (.getfield 11, 3) := by decide +kernel
theorem dX2_mostBy_4 : decode cX2_mostBy 4 = .ok (.iload_n 2, 1) := by decide +kernel
theorem dX2_mostBy_5 : decode cX2_mostBy 5 = .ok (.aaload, 1) := by decide +kernel
theorem dX2_mostBy_6 : decode cX2_mostBy 6 = .ok (.iload_n 3, 1) := by decide +kernel
theorem dX2_mostBy_7 : decode cX2_mostBy 7 = .ok (.iaload, 1) := by decide +kernel
theorem dX2_mostBy_8 : decode cX2_mostBy 8 = .ok (.aload_n 0, 1) := by decide +kernel
theorem dX2_mostBy_9 : decode cX2_mostBy 9 = .ok (.getfield 16, 3) := by decide +kernel
theorem dX2_mostBy_12 : decode cX2_mostBy 12 = .ok (.iload_n 2, 1) := by decide +kernel
theorem dX2_mostBy_13 : decode cX2_mostBy 13 = .ok (.aload_n 1, 1) := by decide +kernel
theorem dX2_mostBy_14 : decode cX2_mostBy 14 = .ok (.getfield 35, 3) := by decide +kernel
theorem dX2_mostBy_17 : decode cX2_mostBy 17 = .ok (.iload_n 3, 1) := by decide +kernel
theorem dX2_mostBy_18 : decode cX2_mostBy 18 = .ok (.aaload, 1) := by decide +kernel
theorem dX2_mostBy_19 : decode cX2_mostBy 19 = .ok (.getfield 65, 3) := by decide +kernel
theorem dX2_mostBy_22 : decode cX2_mostBy 22 = .ok (.iadd, 1) := by decide +kernel
theorem dX2_mostBy_23 : decode cX2_mostBy 23 = .ok (.iaload, 1) := by decide +kernel
theorem dX2_mostBy_24 : decode cX2_mostBy 24 = .ok (.iadd, 1) := by decide +kernel
theorem dX2_mostBy_25 : decode cX2_mostBy 25 = .ok (.ireturn, 1) := by decide +kernel
theorem dX2_firstForMost_0 : decode cX2_firstForMost 0 = .ok (.iconst 0, 1) := by decide +kernel
theorem dX2_firstForMost_1 : decode cX2_firstForMost 1 = .ok (.istore_n 3, 1) := by decide +kernel
theorem dX2_firstForMost_2 : decode cX2_firstForMost 2 = .ok (.iload_n 3, 1) := by decide +kernel
theorem dX2_firstForMost_3 : decode cX2_firstForMost 3 = .ok (.aload_n 1, 1) := by decide +kernel
theorem dX2_firstForMost_4 : decode cX2_firstForMost 4 = .ok (.getfield 32, 3) := by decide +kernel
theorem dX2_firstForMost_7 : decode cX2_firstForMost 7 = .ok (.if_icmp .ge 40, 3) := by decide +kernel
theorem dX2_firstForMost_10 : decode cX2_firstForMost 10 = .ok (.aload_n 0, 1) := by decide +kernel
theorem dX2_firstForMost_11 : decode cX2_firstForMost 11 = .ok (.getfield 11, 3) := by decide +kernel
theorem dX2_firstForMost_14 : decode cX2_firstForMost 14 = .ok (.iload_n 2, 1) := by decide +kernel
theorem dX2_firstForMost_15 : decode cX2_firstForMost 15 = .ok (.aaload, 1) := by decide +kernel
theorem dX2_firstForMost_16 : decode cX2_firstForMost 16 = .ok (.iload_n 3, 1) := by decide +kernel
theorem dX2_firstForMost_17 : decode cX2_firstForMost 17 = .ok (.iaload, 1) := by decide +kernel
theorem dX2_firstForMost_18 : decode cX2_firstForMost 18 = .ok (.ldc 48, 2) := by decide +kernel
theorem dX2_firstForMost_20 : decode cX2_firstForMost 20 = .ok (.if_icmp .eq 21, 3) := by decide +kernel
theorem dX2_firstForMost_23 : decode cX2_firstForMost 23 = .ok (.aload_n 0, 1) := by decide +kernel
theorem dX2_firstForMost_24 : decode cX2_firstForMost 24 = .ok (.aload_n 1, 1) := by decide +kernel
theorem dX2_firstForMost_25 : decode cX2_firstForMost 25 = .ok (.iload_n 2, 1) := by decide +kernel
theorem dX2_firstForMost_26 : decode cX2_firstForMost 26 = .ok (.iload_n 3, 1) := by decide +kernel
theorem dX2_firstForMost_27 : decode cX2_firstForMost 27 = .ok (.invokevirtual 70, 3) := by decide +kernel
theorem dX2_firstForMost_30 : decode cX2_firstForMost 30 = .ok (.aload_n 0, 1) := by decide +kernel
theorem dX2_firstForMost_31 : decode cX2_firstForMost 31 = .ok (.getfield 16, 3) := by decide +kernel
theorem dX2_firstForMost_34 : decode cX2_firstForMost 34 = .ok (.iload_n 2, 1) := by decide +kernel
theorem dX2_firstForMost_35 : decode cX2_firstForMost 35 = .ok (.iaload, 1) := by decide +kernel
theorem dX2_firstForMost_36 : decode cX2_firstForMost 36 = .ok (.if_icmp .ne 5, 3) := by decide +kernel
theorem dX2_firstForMost_39 : decode cX2_firstForMost 39 = .ok (.iload_n 3, 1) := by decide +kernel
theorem dX2_firstForMost_40 : decode cX2_firstForMost 40 = .ok (.ireturn, 1) := by decide +kernel
theorem dX2_firstForMost_41 : decode cX2_firstForMost 41 = .ok (.iinc 3 1, 3) := by decide +kernel
theorem dX2_firstForMost_44 : decode cX2_firstForMost 44 = .ok (.goto (-42), 3) := by decide +kernel
theorem dX2_firstForMost_47 : decode cX2_firstForMost 47 = .ok (.bipush (-4), 2) := by decide +kernel
theorem dX2_firstForMost_49 : decode cX2_firstForMost 49 = .ok (.ireturn, 1) := by decide +kernel
theorem dX3_init_0 : decode cX3_init 0 = .ok (.aload_n 0, 1) := by decide +kernel
theorem dX3_init_1 : decode cX3_init 1 = .ok (.invokespecial 3, 3) := by decide +kernel
theorem dX3_init_4 : decode cX3_init 4 = .ok (.aload_n 0, 1) := by decide +kernel
theorem dX3_init_5 : decode cX3_init 5 = .ok (.iconst (-1), 1) := by decide +kernel
theorem dX3_init_6 : decode cX3_init 6 = .ok (.putfield 9, 3) := by decide +kernel
theorem dX3_init_9 : decode cX3_init 9 = .ok (.aload_n 0, 1) := by decide +kernel
theorem dX3_init_10 : decode cX3_init 10 = .ok (.iconst 0, 1) := by decide +kernel
theorem dX3_init_11 : decode cX3_init 11 = .ok (.putfield 15, 3) := by decide +kernel
theorem dX3_init_14 : decode cX3_init 14 = .ok (.aload_n 0, 1) := by decide +kernel
theorem dX3_init_15 : decode cX3_init 15 = .ok (.bipush 24, 2) := by decide +kernel
theorem dX3_init_17 : decode cX3_init 17 = .ok (.newarray .int, 2) := by decide +kernel
theorem dX3_init_19 : decode cX3_init 19 = .ok (.putfield 18, 3) := by decide +kernel
theorem dX3_init_22 : decode cX3_init 22 = .ok (.return_, 1) := by decide +kernel
theorem dX3_begin_0 : decode cX3_begin 0 = .ok (.aload_n 0, 1) := by decide +kernel
theorem dX3_begin_1 : decode cX3_begin 1 = .ok (.iload_n 1, 1) := by decide +kernel
theorem dX3_begin_2 : decode cX3_begin 2 = .ok (.putfield 9, 3) := by decide +kernel
theorem dX3_begin_5 : decode cX3_begin 5 = .ok (.aload_n 0, 1) := by decide +kernel
theorem dX3_begin_6 : decode cX3_begin 6 = .ok (.iload_n 2, 1) := by decide +kernel
theorem dX3_begin_7 : decode cX3_begin 7 = .ok (.putfield 15, 3) := by decide +kernel
theorem dX3_begin_10 : decode cX3_begin 10 = .ok (.aload_n 0, 1) := by decide +kernel
theorem dX3_begin_11 : decode cX3_begin 11 = .ok (.getfield 18, 3) := by decide +kernel
theorem dX3_begin_14 : decode cX3_begin 14 = .ok (.iconst 0, 1) := by decide +kernel
theorem dX3_begin_15 : decode cX3_begin 15 = .ok (.invokestatic 22, 3) := by decide +kernel
theorem dX3_begin_18 : decode cX3_begin 18 = .ok (.return_, 1) := by decide +kernel
theorem dX3_refusal_0 : decode cX3_refusal 0 = .ok (.aload_n 0, 1) := by decide +kernel
theorem dX3_refusal_1 : decode cX3_refusal 1 = .ok (.getfield 9, 3) := by decide +kernel
theorem dX3_refusal_4 : decode cX3_refusal 4 = .ok (.iconst (-1), 1) := by decide +kernel
theorem dX3_refusal_5 : decode cX3_refusal 5 = .ok (.if_icmp .ne 6, 3) := by decide +kernel
theorem dX3_refusal_8 : decode cX3_refusal 8 = .ok (.bipush (-11), 2) := by decide +kernel
theorem dX3_refusal_10 : decode cX3_refusal 10 = .ok (.ireturn, 1) := by decide +kernel
theorem dX3_refusal_11 : decode cX3_refusal 11 = .ok (.aload_n 0, 1) := by decide +kernel
theorem dX3_refusal_12 : decode cX3_refusal 12 = .ok (.getfield 9, 3) := by decide +kernel
theorem dX3_refusal_15 : decode cX3_refusal 15 = .ok (.iload_n 1, 1) := by decide +kernel
theorem dX3_refusal_16 : decode cX3_refusal 16 = .ok (.if_icmp .eq 6, 3) := by decide +kernel
theorem dX3_refusal_19 : decode cX3_refusal 19 = .ok (.bipush (-12), 2) := by decide +kernel
theorem dX3_refusal_21 : decode cX3_refusal 21 = .ok (.ireturn, 1) := by decide +kernel
theorem dX3_refusal_22 : decode cX3_refusal 22 = .ok (.iload_n 2, 1) := by decide +kernel
theorem dX3_refusal_23 : decode cX3_refusal 23 = .ok (.ifCond .lt 13, 3) := by decide +kernel
theorem dX3_refusal_26 : decode cX3_refusal 26 = .ok (.iload_n 2, 1) := by decide +kernel
theorem dX3_refusal_27 : decode cX3_refusal 27 = .ok (.aload_n 0, 1) := by decide +kernel
theorem dX3_refusal_28 : decode cX3_refusal 28 = .ok (.getfield 15, 3) := by decide +kernel
theorem dX3_refusal_31 : decode cX3_refusal 31 = .ok (.iload_n 3, 1) := by decide +kernel
theorem dX3_refusal_32 : decode cX3_refusal 32 = .ok (.isub, 1) := by decide +kernel
theorem dX3_refusal_33 : decode cX3_refusal 33 = .ok (.if_icmp .le 8, 3) := by decide +kernel
theorem dX3_refusal_36 : decode cX3_refusal 36 = .ok (.bipush (-13), 2) := by decide +kernel
theorem dX3_refusal_38 : decode cX3_refusal 38 = .ok (.goto 4, 3) := by decide +kernel
theorem dX3_refusal_41 : decode cX3_refusal 41 = .ok (.iconst 0, 1) := by decide +kernel
theorem dX3_refusal_42 : decode cX3_refusal 42 = .ok (.ireturn, 1) := by decide +kernel
theorem dX3_holdsGrass_0 : decode cX3_holdsGrass 0 = .ok (.iload_n 1, 1) := by decide +kernel
theorem dX3_holdsGrass_1 : decode cX3_holdsGrass 1 = .ok (.istore_n 2, 1) := by decide +kernel
theorem dX3_holdsGrass_2 : decode cX3_holdsGrass 2 = .ok (.iload_n 2, 1) := by decide +kernel
theorem dX3_holdsGrass_3 : decode cX3_holdsGrass 3 = .ok (.iload_n 1, 1) := by decide +kernel
theorem dX3_holdsGrass_4 : decode cX3_holdsGrass 4 = .ok (.bipush 15, 2) := by decide +kernel
theorem dX3_holdsGrass_6 : decode cX3_holdsGrass 6 = .ok (.iadd, 1) := by decide +kernel
theorem dX3_holdsGrass_7 : decode cX3_holdsGrass 7 = .ok (.if_icmp .ge 31, 3) := by decide +kernel
theorem dX3_holdsGrass_10 : decode cX3_holdsGrass 10 = .ok (.aload_n 0, 1) := by decide +kernel
theorem dX3_holdsGrass_11 : decode cX3_holdsGrass 11 = .ok (.getfield 18, 3) := by decide +kernel
theorem dX3_holdsGrass_14 : decode cX3_holdsGrass 14 = .ok (.iload_n 2, 1) := by decide +kernel
theorem dX3_holdsGrass_15 : decode cX3_holdsGrass 15 = .ok (.iaload, 1) := by decide +kernel
theorem dX3_holdsGrass_16 : decode cX3_holdsGrass 16 = .ok (.ifCond .lt 14, 3) := by decide +kernel
theorem dX3_holdsGrass_19 : decode cX3_holdsGrass 19 = .ok (.aload_n 0, 1) := by decide +kernel
theorem dX3_holdsGrass_20 : decode cX3_holdsGrass 20 = .ok (.getfield 18, 3) := by decide +kernel
theorem dX3_holdsGrass_23 : decode cX3_holdsGrass 23 = .ok (.iload_n 2, 1) := by decide +kernel
theorem dX3_holdsGrass_24 : decode cX3_holdsGrass 24 = .ok (.iaload, 1) := by decide +kernel
theorem dX3_holdsGrass_25 : decode cX3_holdsGrass 25 = .ok (.bipush 9, 2) := by decide +kernel
theorem dX3_holdsGrass_27 : decode cX3_holdsGrass 27 = .ok (.if_icmp .le 5, 3) := by decide +kernel
theorem dX3_holdsGrass_30 : decode cX3_holdsGrass 30 = .ok (.iconst 0, 1) := by decide +kernel
theorem dX3_holdsGrass_31 : decode cX3_holdsGrass 31 = .ok (.ireturn, 1) := by decide +kernel
theorem dX3_holdsGrass_32 : decode cX3_holdsGrass 32 = .ok (.iinc 2 1, 3) := by decide +kernel
theorem dX3_holdsGrass_35 : decode cX3_holdsGrass 35 = .ok (.goto (-33), 3) := by decide +kernel
theorem dX3_holdsGrass_38 : decode cX3_holdsGrass 38 = .ok (.iconst 1, 1) := by decide +kernel
theorem dX3_holdsGrass_39 : decode cX3_holdsGrass 39 = .ok (.ireturn, 1) := by decide +kernel
theorem dX3_put_0 : decode cX3_put 0 = .ok (.aload_n 0, 1) := by decide +kernel
theorem dX3_put_1 : decode cX3_put 1 = .ok (.getfield 9, 3) := by decide +kernel
theorem dX3_put_4 : decode cX3_put 4 = .ok (.lookupswitch 50 #[(0, 28), (1, 39)], 28) := by decide +kernel
theorem dX3_put_32 : decode cX3_put 32 = .ok (.aload_n 0, 1) := by decide +kernel
theorem dX3_put_33 : decode cX3_put 33 = .ok (.getfield 18, 3) := by decide +kernel
theorem dX3_put_36 : decode cX3_put 36 = .ok (.iload_n 1, 1) := by decide +kernel
theorem dX3_put_37 : decode cX3_put 37 = .ok (.iload_n 2, 1) := by decide +kernel
theorem dX3_put_38 : decode cX3_put 38 = .ok (.i2b, 1) := by decide +kernel
theorem dX3_put_39 : decode cX3_put 39 = .ok (.iastore, 1) := by decide +kernel
theorem dX3_put_40 : decode cX3_put 40 = .ok (.goto 21, 3) := by decide +kernel
theorem dX3_put_43 : decode cX3_put 43 = .ok (.aload_n 0, 1) := by decide +kernel
theorem dX3_put_44 : decode cX3_put 44 = .ok (.getfield 18, 3) := by decide +kernel
theorem dX3_put_47 : decode cX3_put 47 = .ok (.iload_n 1, 1) := by decide +kernel
theorem dX3_put_48 : decode cX3_put 48 = .ok (.iload_n 2, 1) := by decide +kernel
theorem dX3_put_49 : decode cX3_put 49 = .ok (.i2s, 1) := by decide +kernel
theorem dX3_put_50 : decode cX3_put 50 = .ok (.iastore, 1) := by decide +kernel
theorem dX3_put_51 : decode cX3_put 51 = .ok (.goto 10, 3) := by decide +kernel
theorem dX3_put_54 : decode cX3_put 54 = .ok (.aload_n 0, 1) := by decide +kernel
theorem dX3_put_55 : decode cX3_put 55 = .ok (.getfield 18, 3) := by decide +kernel
theorem dX3_put_58 : decode cX3_put 58 = .ok (.iload_n 1, 1) := by decide +kernel
theorem dX3_put_59 : decode cX3_put 59 = .ok (.iload_n 2, 1) := by decide +kernel
theorem dX3_put_60 : decode cX3_put 60 = .ok (.iastore, 1) := by decide +kernel
theorem dX3_put_61 : decode cX3_put 61 = .ok (.return_, 1) := by decide +kernel
theorem dX4_init_0 : decode cX4_init 0 = .ok (.aload_n 0, 1) := by decide +kernel
theorem dX4_init_1 : decode cX4_init 1 = .ok (.invokespecial 3, 3) := by decide +kernel
theorem dX4_init_4 : decode cX4_init 4 = .ok (.aload_n 0, 1) := by decide +kernel
theorem dX4_init_5 : decode cX4_init 5 = .ok (.iconst 0, 1) := by decide +kernel
theorem dX4_init_6 : decode cX4_init 6 = .ok (.putfield 9, 3) := by decide +kernel
theorem dX4_init_9 : decode cX4_init 9 = .ok (.aload_n 0, 1) := by decide +kernel
theorem dX4_init_10 : decode cX4_init 10 = .ok (.bipush 15, 2) := by decide +kernel
theorem dX4_init_12 : decode cX4_init 12 = .ok (.newarray .int, 2) := by decide +kernel
theorem dX4_init_14 : decode cX4_init 14 = .ok (.putfield 15, 3) := by decide +kernel
theorem dX4_init_17 : decode cX4_init 17 = .ok (.return_, 1) := by decide +kernel
theorem dX4_begin_0 : decode cX4_begin 0 = .ok (.aload_n 0, 1) := by decide +kernel
theorem dX4_begin_1 : decode cX4_begin 1 = .ok (.iload_n 1, 1) := by decide +kernel
theorem dX4_begin_2 : decode cX4_begin 2 = .ok (.putfield 9, 3) := by decide +kernel
theorem dX4_begin_5 : decode cX4_begin 5 = .ok (.aload_n 0, 1) := by decide +kernel
theorem dX4_begin_6 : decode cX4_begin 6 = .ok (.getfield 15, 3) := by decide +kernel
theorem dX4_begin_9 : decode cX4_begin 9 = .ok (.iconst 5, 1) := by decide +kernel
theorem dX4_begin_10 : decode cX4_begin 10 = .ok (.invokestatic 19, 3) := by decide +kernel
theorem dX4_begin_13 : decode cX4_begin 13 = .ok (.return_, 1) := by decide +kernel
theorem dX4_copyFrom_0 : decode cX4_copyFrom 0 = .ok (.aload_n 0, 1) := by decide +kernel
theorem dX4_copyFrom_1 : decode cX4_copyFrom 1 = .ok (.aload_n 1, 1) := by decide +kernel
theorem dX4_copyFrom_2 : decode cX4_copyFrom 2 = .ok (.getfield 9, 3) := by decide +kernel
theorem dX4_copyFrom_5 : decode cX4_copyFrom 5 = .ok (.putfield 9, 3) := by decide +kernel
theorem dX4_copyFrom_8 : decode cX4_copyFrom 8 = .ok (.aload_n 1, 1) := by decide +kernel
theorem dX4_copyFrom_9 : decode cX4_copyFrom 9 = .ok (.getfield 15, 3) := by decide +kernel
theorem dX4_copyFrom_12 : decode cX4_copyFrom 12 = .ok (.iconst 0, 1) := by decide +kernel
theorem dX4_copyFrom_13 : decode cX4_copyFrom 13 = .ok (.aload_n 0, 1) := by decide +kernel
theorem dX4_copyFrom_14 : decode cX4_copyFrom 14 = .ok (.getfield 15, 3) := by decide +kernel
theorem dX4_copyFrom_17 : decode cX4_copyFrom 17 = .ok (.iconst 0, 1) := by decide +kernel
theorem dX4_copyFrom_18 : decode cX4_copyFrom 18 = .ok (.bipush 15, 2) := by decide +kernel
theorem dX4_copyFrom_20 : decode cX4_copyFrom 20 = .ok (.invokestatic 25, 3) := by decide +kernel
theorem dX4_copyFrom_23 : decode cX4_copyFrom 23 = .ok (.return_, 1) := by decide +kernel
theorem dX4_cellsUpTo_0 : decode cX4_cellsUpTo 0 = .ok (.iconst 0, 1) := by decide +kernel
theorem dX4_cellsUpTo_1 : decode cX4_cellsUpTo 1 = .ok (.istore_n 2, 1) := by decide +kernel
theorem dX4_cellsUpTo_2 : decode cX4_cellsUpTo 2 = .ok (.iconst 0, 1) := by decide +kernel
theorem dX4_cellsUpTo_3 : decode cX4_cellsUpTo 3 = .ok (.istore_n 3, 1) := by decide +kernel
theorem dX4_cellsUpTo_4 : decode cX4_cellsUpTo 4 = .ok (.iload_n 3, 1) := by decide +kernel
theorem dX4_cellsUpTo_5 : decode cX4_cellsUpTo 5 = .ok (.bipush 15, 2) := by decide +kernel
theorem dX4_cellsUpTo_7 : decode cX4_cellsUpTo 7 = .ok (.if_icmp .ge 25, 3) := by decide +kernel
theorem dX4_cellsUpTo_10 : decode cX4_cellsUpTo 10 = .ok (.aload_n 0, 1) := by decide +kernel
theorem dX4_cellsUpTo_11 : decode cX4_cellsUpTo 11 = .ok (.getfield 15, 3) := by decide +kernel
theorem dX4_cellsUpTo_14 : decode cX4_cellsUpTo 14 = .ok (.iload_n 3, 1) := by decide +kernel
theorem dX4_cellsUpTo_15 : decode cX4_cellsUpTo 15 = .ok (.iaload, 1) := by decide +kernel
theorem dX4_cellsUpTo_16 : decode cX4_cellsUpTo 16 = .ok (.iload_n 1, 1) := by decide +kernel
theorem dX4_cellsUpTo_17 : decode cX4_cellsUpTo 17 = .ok (.if_icmp .gt 9, 3) := by decide +kernel
theorem dX4_cellsUpTo_20 : decode cX4_cellsUpTo 20 = .ok (.iload_n 2, 1) := by decide +kernel
theorem dX4_cellsUpTo_21 : decode cX4_cellsUpTo 21 = .ok (.iconst 1, 1) := by decide +kernel
theorem dX4_cellsUpTo_22 : decode cX4_cellsUpTo 22 = .ok (.iload_n 3, 1) := by decide +kernel
theorem dX4_cellsUpTo_23 : decode cX4_cellsUpTo 23 = .ok (.ishl, 1) := by decide +kernel
theorem dX4_cellsUpTo_24 : decode cX4_cellsUpTo 24 = .ok (.ior, 1) := by decide +kernel
theorem dX4_cellsUpTo_25 : decode cX4_cellsUpTo 25 = .ok (.istore_n 2, 1) := by decide +kernel
theorem dX4_cellsUpTo_26 : decode cX4_cellsUpTo 26 = .ok (.iinc 3 1, 3) := by decide +kernel
theorem dX4_cellsUpTo_29 : decode cX4_cellsUpTo 29 = .ok (.goto (-25), 3) := by decide +kernel
theorem dX4_cellsUpTo_32 : decode cX4_cellsUpTo 32 = .ok (.iload_n 2, 1) := by decide +kernel
theorem dX4_cellsUpTo_33 : decode cX4_cellsUpTo 33 = .ok (.ireturn, 1) := by decide +kernel
theorem dX4_grownCells_0 : decode cX4_grownCells 0 = .ok (.sipush 32767, 3) := by decide +kernel
theorem dX4_grownCells_3 : decode cX4_grownCells 3 = .ok (.aload_n 0, 1) := by decide +kernel
theorem dX4_grownCells_4 : decode cX4_grownCells 4 = .ok (.iconst 2, 1) := by decide +kernel
theorem dX4_grownCells_5 : decode cX4_grownCells 5 = .ok (.invokevirtual 31, 3) := by decide +kernel
theorem dX4_grownCells_8 : decode cX4_grownCells 8 = .ok (.iconst (-1), 1) := by decide +kernel
theorem dX4_grownCells_9 : decode cX4_grownCells 9 = .ok (.ixor, 1) := by decide +kernel
theorem dX4_grownCells_10 : decode cX4_grownCells 10 = .ok (.iand, 1) := by decide +kernel
theorem dX4_grownCells_11 : decode cX4_grownCells 11 = .ok (.ireturn, 1) := by decide +kernel
theorem dX4_hasGrown_0 : decode cX4_hasGrown 0 = .ok (.iload_n 1, 1) := by decide +kernel
theorem dX4_hasGrown_1 : decode cX4_hasGrown 1 = .ok (.aload_n 0, 1) := by decide +kernel
theorem dX4_hasGrown_2 : decode cX4_hasGrown 2 = .ok (.invokevirtual 35, 3) := by decide +kernel
theorem dX4_hasGrown_5 : decode cX4_hasGrown 5 = .ok (.iconst (-1), 1) := by decide +kernel
theorem dX4_hasGrown_6 : decode cX4_hasGrown 6 = .ok (.ixor, 1) := by decide +kernel
theorem dX4_hasGrown_7 : decode cX4_hasGrown 7 = .ok (.iand, 1) := by decide +kernel
theorem dX4_hasGrown_8 : decode cX4_hasGrown 8 = .ok (.ifCond .ne 7, 3) := by decide +kernel
theorem dX4_hasGrown_11 : decode cX4_hasGrown 11 = .ok (.iconst 1, 1) := by decide +kernel
theorem dX4_hasGrown_12 : decode cX4_hasGrown 12 = .ok (.goto 4, 3) := by decide +kernel
theorem dX4_hasGrown_15 : decode cX4_hasGrown 15 = .ok (.iconst 0, 1) := by decide +kernel
theorem dX4_hasGrown_16 : decode cX4_hasGrown 16 = .ok (.ireturn, 1) := by decide +kernel
theorem dX4_grassOf_0 : decode cX4_grassOf 0 = .ok (.iconst 0, 1) := by decide +kernel
theorem dX4_grassOf_1 : decode cX4_grassOf 1 = .ok (.istore_n 2, 1) := by decide +kernel
theorem dX4_grassOf_2 : decode cX4_grassOf 2 = .ok (.iconst 0, 1) := by decide +kernel
theorem dX4_grassOf_3 : decode cX4_grassOf 3 = .ok (.istore_n 3, 1) := by decide +kernel
theorem dX4_grassOf_4 : decode cX4_grassOf 4 = .ok (.iload_n 3, 1) := by decide +kernel
theorem dX4_grassOf_5 : decode cX4_grassOf 5 = .ok (.bipush 15, 2) := by decide +kernel
theorem dX4_grassOf_7 : decode cX4_grassOf 7 = .ok (.if_icmp .ge 27, 3) := by decide +kernel
theorem dX4_grassOf_10 : decode cX4_grassOf 10 = .ok (.iload_n 1, 1) := by decide +kernel
theorem dX4_grassOf_11 : decode cX4_grassOf 11 = .ok (.iload_n 3, 1) := by decide +kernel
theorem dX4_grassOf_12 : decode cX4_grassOf 12 = .ok (.ishr, 1) := by decide +kernel
theorem dX4_grassOf_13 : decode cX4_grassOf 13 = .ok (.iconst 1, 1) := by decide +kernel
theorem dX4_grassOf_14 : decode cX4_grassOf 14 = .ok (.iand, 1) := by decide +kernel
theorem dX4_grassOf_15 : decode cX4_grassOf 15 = .ok (.iconst 1, 1) := by decide +kernel
theorem dX4_grassOf_16 : decode cX4_grassOf 16 = .ok (.if_icmp .ne 12, 3) := by decide +kernel
theorem dX4_grassOf_19 : decode cX4_grassOf 19 = .ok (.iload_n 2, 1) := by decide +kernel
theorem dX4_grassOf_20 : decode cX4_grassOf 20 = .ok (.aload_n 0, 1) := by decide +kernel
theorem dX4_grassOf_21 : decode cX4_grassOf 21 = .ok (.getfield 15, 3) := by decide +kernel
theorem dX4_grassOf_24 : decode cX4_grassOf 24 = .ok (.iload_n 3, 1) := by decide +kernel
theorem dX4_grassOf_25 : decode cX4_grassOf 25 = .ok (.iaload, 1) := by decide +kernel
theorem dX4_grassOf_26 : decode cX4_grassOf 26 = .ok (.iadd, 1) := by decide +kernel
theorem dX4_grassOf_27 : decode cX4_grassOf 27 = .ok (.istore_n 2, 1) := by decide +kernel
theorem dX4_grassOf_28 : decode cX4_grassOf 28 = .ok (.iinc 3 1, 3) := by decide +kernel
theorem dX4_grassOf_31 : decode cX4_grassOf 31 = .ok (.goto (-27), 3) := by decide +kernel
theorem dX4_grassOf_34 : decode cX4_grassOf 34 = .ok (.iload_n 2, 1) := by decide +kernel
theorem dX4_grassOf_35 : decode cX4_grassOf 35 = .ok (.ireturn, 1) := by decide +kernel
theorem dX4_cutDown_0 : decode cX4_cutDown 0 = .ok (.iconst 0, 1) := by decide +kernel
theorem dX4_cutDown_1 : decode cX4_cutDown 1 = .ok (.istore_n 2, 1) := by decide +kernel
theorem dX4_cutDown_2 : decode cX4_cutDown 2 = .ok (.iload_n 2, 1) := by decide +kernel
theorem dX4_cutDown_3 : decode cX4_cutDown 3 = .ok (.bipush 15, 2) := by decide +kernel
theorem dX4_cutDown_5 : decode cX4_cutDown 5 = .ok (.if_icmp .ge 25, 3) := by decide +kernel
theorem dX4_cutDown_8 : decode cX4_cutDown 8 = .ok (.iload_n 1, 1) := by decide +kernel
theorem dX4_cutDown_9 : decode cX4_cutDown 9 = .ok (.iload_n 2, 1) := by decide +kernel
theorem dX4_cutDown_10 : decode cX4_cutDown 10 = .ok (.ishr, 1) := by decide +kernel
theorem dX4_cutDown_11 : decode cX4_cutDown 11 = .ok (.iconst 1, 1) := by decide +kernel
theorem dX4_cutDown_12 : decode cX4_cutDown 12 = .ok (.iand, 1) := by decide +kernel
theorem dX4_cutDown_13 : decode cX4_cutDown 13 = .ok (.iconst 1, 1) := by decide +kernel
theorem dX4_cutDown_14 : decode cX4_cutDown 14 = .ok (.if_icmp .ne 10, 3) := by decide +kernel
theorem dX4_cutDown_17 : decode cX4_cutDown 17 = .ok (.aload_n 0, 1) := by decide +kernel
theorem dX4_cutDown_18 : decode cX4_cutDown 18 = .ok (.getfield 15, 3) := by decide +kernel
theorem dX4_cutDown_21 : decode cX4_cutDown 21 = .ok (.iload_n 2, 1) := by decide +kernel
theorem dX4_cutDown_22 : decode cX4_cutDown 22 = .ok (.iconst 0, 1) := by decide +kernel
theorem dX4_cutDown_23 : decode cX4_cutDown 23 = .ok (.iastore, 1) := by decide +kernel
theorem dX4_cutDown_24 : decode cX4_cutDown 24 = .ok (.iinc 2 1, 3) := by decide +kernel
theorem dX4_cutDown_27 : decode cX4_cutDown 27 = .ok (.goto (-25), 3) := by decide +kernel
theorem dX4_cutDown_30 : decode cX4_cutDown 30 = .ok (.return_, 1) := by decide +kernel
theorem dX4_growBy_0 : decode cX4_growBy 0 = .ok (.iconst 0, 1) := by decide +kernel
theorem dX4_growBy_1 : decode cX4_growBy 1 = .ok (.istore_n 2, 1) := by decide +kernel
theorem dX4_growBy_2 : decode cX4_growBy 2 = .ok (.iconst 0, 1) := by decide +kernel
theorem dX4_growBy_3 : decode cX4_growBy 3 = .ok (.istore_n 3, 1) := by decide +kernel
theorem dX4_growBy_4 : decode cX4_growBy 4 = .ok (.iload_n 3, 1) := by decide +kernel
theorem dX4_growBy_5 : decode cX4_growBy 5 = .ok (.bipush 15, 2) := by decide +kernel
theorem dX4_growBy_7 : decode cX4_growBy 7 = .ok (.if_icmp .ge 42, 3) := by decide +kernel
theorem dX4_growBy_10 : decode cX4_growBy 10 = .ok (.aload_n 0, 1) := by decide +kernel
theorem dX4_growBy_11 : decode cX4_growBy 11 = .ok (.getfield 15, 3) := by decide +kernel
theorem dX4_growBy_14 : decode cX4_growBy 14 = .ok (.iload_n 3, 1) := by decide +kernel
theorem dX4_growBy_15 : decode cX4_growBy 15 = .ok (.bipush 9, 2) := by decide +kernel
theorem dX4_growBy_17 : decode cX4_growBy 17 = .ok (.aload_n 0, 1) := by decide +kernel
theorem dX4_growBy_18 : decode cX4_growBy 18 = .ok (.getfield 15, 3) := by decide +kernel
theorem dX4_growBy_21 : decode cX4_growBy 21 = .ok (.iload_n 3, 1) := by decide +kernel
theorem dX4_growBy_22 : decode cX4_growBy 22 = .ok (.iaload, 1) := by decide +kernel
theorem dX4_growBy_23 : decode cX4_growBy 23 = .ok (.iload_n 1, 1) := by decide +kernel
theorem dX4_growBy_24 : decode cX4_growBy 24 = .ok (.iadd, 1) := by decide +kernel
theorem dX4_growBy_25 : decode cX4_growBy 25 = .ok (.invokestatic 39, 3) := by decide +kernel
theorem dX4_growBy_28 : decode cX4_growBy 28 = .ok (.iastore, 1) := by decide +kernel
theorem dX4_growBy_29 : decode cX4_growBy 29 = .ok (.aload_n 0, 1) := by decide +kernel
theorem dX4_growBy_30 : decode cX4_growBy 30 = .ok (.getfield 15, 3) := by decide +kernel
theorem dX4_growBy_33 : decode cX4_growBy 33 = .ok (.iload_n 3, 1) := by decide +kernel
theorem dX4_growBy_34 : decode cX4_growBy 34 = .ok (.iaload, 1) := by decide +kernel
theorem dX4_growBy_35 : decode cX4_growBy 35 = .ok (.bipush 9, 2) := by decide +kernel
theorem dX4_growBy_37 : decode cX4_growBy 37 = .ok (.if_icmp .ne 6, 3) := by decide +kernel
theorem dX4_growBy_40 : decode cX4_growBy 40 = .ok (.iinc 2 1, 3) := by decide +kernel
theorem dX4_growBy_43 : decode cX4_growBy 43 = .ok (.iinc 3 1, 3) := by decide +kernel
theorem dX4_growBy_46 : decode cX4_growBy 46 = .ok (.goto (-42), 3) := by decide +kernel
theorem dX4_growBy_49 : decode cX4_growBy 49 = .ok (.iload_n 2, 1) := by decide +kernel
theorem dX4_growBy_50 : decode cX4_growBy 50 = .ok (.ireturn, 1) := by decide +kernel
theorem dX4_sowFrom_0 : decode cX4_sowFrom 0 = .ok (.aload_n 1, 1) := by decide +kernel
theorem dX4_sowFrom_1 : decode cX4_sowFrom 1 = .ok (.iload_n 2, 1) := by decide +kernel
theorem dX4_sowFrom_2 : decode cX4_sowFrom 2 = .ok (.aload_n 0, 1) := by decide +kernel
theorem dX4_sowFrom_3 : decode cX4_sowFrom 3 = .ok (.getfield 15, 3) := by decide +kernel
theorem dX4_sowFrom_6 : decode cX4_sowFrom 6 = .ok (.iconst 0, 1) := by decide +kernel
theorem dX4_sowFrom_7 : decode cX4_sowFrom 7 = .ok (.bipush 15, 2) := by decide +kernel
theorem dX4_sowFrom_9 : decode cX4_sowFrom 9 = .ok (.invokestatic 25, 3) := by decide +kernel
theorem dX4_sowFrom_12 : decode cX4_sowFrom 12 = .ok (.aload_n 0, 1) := by decide +kernel
theorem dX4_sowFrom_13 : decode cX4_sowFrom 13 = .ok (.sipush 32767, 3) := by decide +kernel
theorem dX4_sowFrom_16 : decode cX4_sowFrom 16 = .ok (.invokevirtual 45, 3) := by decide +kernel
theorem dX4_sowFrom_19 : decode cX4_sowFrom 19 = .ok (.ireturn, 1) := by decide +kernel
theorem dX5_init_0 : decode cX5_init 0 = .ok (.aload_n 0, 1) := by decide +kernel
theorem dX5_init_1 : decode cX5_init 1 = .ok (.invokespecial 3, 3) := by decide +kernel
theorem dX5_init_4 : decode cX5_init 4 = .ok (.aload_n 0, 1) := by decide +kernel
theorem dX5_init_5 : decode cX5_init 5 = .ok (.bipush 80, 2) := by decide +kernel
theorem dX5_init_7 : decode cX5_init 7 = .ok (.newarray .byte, 2) := by decide +kernel
theorem dX5_init_9 : decode cX5_init 9 = .ok (.putfield 9, 3) := by decide +kernel
theorem dX5_init_12 : decode cX5_init 12 = .ok (.aload_n 0, 1) := by decide +kernel
theorem dX5_init_13 : decode cX5_init 13 = .ok (.iconst 0, 1) := by decide +kernel
theorem dX5_init_14 : decode cX5_init 14 = .ok (.putfield 15, 3) := by decide +kernel
theorem dX5_init_17 : decode cX5_init 17 = .ok (.aload_n 0, 1) := by decide +kernel
theorem dX5_init_18 : decode cX5_init 18 = .ok (.bipush 9, 2) := by decide +kernel
theorem dX5_init_20 : decode cX5_init 20 = .ok (.newarray .int, 2) := by decide +kernel
theorem dX5_init_22 : decode cX5_init 22 = .ok (.putfield 19, 3) := by decide +kernel
theorem dX5_init_25 : decode cX5_init 25 = .ok (.aload_n 0, 1) := by decide +kernel
theorem dX5_init_26 : decode cX5_init 26 = .ok (.iconst 4, 1) := by decide +kernel
theorem dX5_init_27 : decode cX5_init 27 = .ok (.anewarray 23, 3) := by decide +kernel
theorem dX5_init_30 : decode cX5_init 30 = .ok (.putfield 25, 3) := by decide +kernel
theorem dX5_init_33 : decode cX5_init 33 = .ok (.aload_n 0, 1) := by decide +kernel
theorem dX5_init_34 : decode cX5_init 34 = .ok (.iconst 0, 1) := by decide +kernel
theorem dX5_init_35 : decode cX5_init 35 = .ok (.putfield 29, 3) := by decide +kernel
theorem dX5_init_38 : decode cX5_init 38 = .ok (.iconst 0, 1) := by decide +kernel
theorem dX5_init_39 : decode cX5_init 39 = .ok (.istore_n 1, 1) := by decide +kernel
theorem dX5_init_40 : decode cX5_init 40 = .ok (.iload_n 1, 1) := by decide +kernel
theorem dX5_init_41 : decode cX5_init 41 = .ok (.iconst 4, 1) := by decide +kernel
theorem dX5_init_42 : decode cX5_init 42 = .ok (.if_icmp .ge 22, 3) := by decide +kernel
theorem dX5_init_45 : decode cX5_init 45 = .ok (.aload_n 0, 1) := by decide +kernel
theorem dX5_init_46 : decode cX5_init 46 = .ok (.getfield 25, 3) := by decide +kernel
theorem dX5_init_49 : decode cX5_init 49 = .ok (.iload_n 1, 1) := by decide +kernel
theorem dX5_init_50 : decode cX5_init 50 = .ok (.new 23, 3) := by decide +kernel
theorem dX5_init_53 : decode cX5_init 53 = .ok (.dup, 1) := by decide +kernel
theorem dX5_init_54 : decode cX5_init 54 = .ok (.invokespecial 32, 3) := by decide +kernel
theorem dX5_init_57 : decode cX5_init 57 = .ok (.aastore, 1) := by decide +kernel
theorem dX5_init_58 : decode cX5_init 58 = .ok (.iinc 1 1, 3) := by decide +kernel
theorem dX5_init_61 : decode cX5_init 61 = .ok (.goto (-21), 3) := by decide +kernel
theorem dX5_init_64 : decode cX5_init 64 = .ok (.return_, 1) := by decide +kernel
theorem dX5_append_0 : decode cX5_append 0 = .ok (.iconst 0, 1) := by decide +kernel
theorem dX5_append_1 : decode cX5_append 1 = .ok (.istore 4, 2) := by decide +kernel
theorem dX5_append_3 : decode cX5_append 3 = .ok (.iload 4, 2) := by decide +kernel
theorem dX5_append_5 : decode cX5_append 5 = .ok (.iload_n 3, 1) := by decide +kernel
theorem dX5_append_6 : decode cX5_append 6 = .ok (.if_icmp .ge 36, 3) := by decide +kernel
theorem dX5_append_9 : decode cX5_append 9 = .ok (.lload_n 1, 1) := by decide +kernel
theorem dX5_append_10 : decode cX5_append 10 = .ok (.bipush 8, 2) := by decide +kernel
theorem dX5_append_12 : decode cX5_append 12 = .ok (.iload 4, 2) := by decide +kernel
theorem dX5_append_14 : decode cX5_append 14 = .ok (.imul, 1) := by decide +kernel
theorem dX5_append_15 : decode cX5_append 15 = .ok (.lshr, 1) := by decide +kernel
theorem dX5_append_16 : decode cX5_append 16 = .ok (.l2i, 1) := by decide +kernel
theorem dX5_append_17 : decode cX5_append 17 = .ok (.i2b, 1) := by decide +kernel
theorem dX5_append_18 : decode cX5_append 18 = .ok (.istore 5, 2) := by decide +kernel
theorem dX5_append_20 : decode cX5_append 20 = .ok (.iload 5, 2) := by decide +kernel
theorem dX5_append_22 : decode cX5_append 22 = .ok (.bipush 32, 2) := by decide +kernel
theorem dX5_append_24 : decode cX5_append 24 = .ok (.if_icmp .lt 10, 3) := by decide +kernel
theorem dX5_append_27 : decode cX5_append 27 = .ok (.iload 5, 2) := by decide +kernel
theorem dX5_append_29 : decode cX5_append 29 = .ok (.bipush 126, 2) := by decide +kernel
theorem dX5_append_31 : decode cX5_append 31 = .ok (.if_icmp .le 5, 3) := by decide +kernel
theorem dX5_append_34 : decode cX5_append 34 = .ok (.iconst (-1), 1) := by decide +kernel
theorem dX5_append_35 : decode cX5_append 35 = .ok (.ireturn, 1) := by decide +kernel
theorem dX5_append_36 : decode cX5_append 36 = .ok (.iinc 4 1, 3) := by decide +kernel
theorem dX5_append_39 : decode cX5_append 39 = .ok (.goto (-36), 3) := by decide +kernel
theorem dX5_append_42 : decode cX5_append 42 = .ok (.iload_n 3, 1) := by decide +kernel
theorem dX5_append_43 : decode cX5_append 43 = .ok (.bipush 80, 2) := by decide +kernel
theorem dX5_append_45 : decode cX5_append 45 = .ok (.aload_n 0, 1) := by decide +kernel
theorem dX5_append_46 : decode cX5_append 46 = .ok (.getfield 15, 3) := by decide +kernel
theorem dX5_append_49 : decode cX5_append 49 = .ok (.isub, 1) := by decide +kernel
theorem dX5_append_50 : decode cX5_append 50 = .ok (.if_icmp .le 6, 3) := by decide +kernel
theorem dX5_append_53 : decode cX5_append 53 = .ok (.bipush (-3), 2) := by decide +kernel
theorem dX5_append_55 : decode cX5_append 55 = .ok (.ireturn, 1) := by decide +kernel
theorem dX5_append_56 : decode cX5_append 56 = .ok (.iload_n 3, 1) := by decide +kernel
theorem dX5_append_57 : decode cX5_append 57 = .ok (.iconst 1, 1) := by decide +kernel
theorem dX5_append_58 : decode cX5_append 58 = .ok (.isub, 1) := by decide +kernel
theorem dX5_append_59 : decode cX5_append 59 = .ok (.istore 4, 2) := by decide +kernel
theorem dX5_append_61 : decode cX5_append 61 = .ok (.iload 4, 2) := by decide +kernel
theorem dX5_append_63 : decode cX5_append 63 = .ok (.ifCond .lt 37, 3) := by decide +kernel
theorem dX5_append_66 : decode cX5_append 66 = .ok (.aload_n 0, 1) := by decide +kernel
theorem dX5_append_67 : decode cX5_append 67 = .ok (.getfield 9, 3) := by decide +kernel
theorem dX5_append_70 : decode cX5_append 70 = .ok (.aload_n 0, 1) := by decide +kernel
theorem dX5_append_71 : decode cX5_append 71 = .ok (.getfield 15, 3) := by decide +kernel
theorem dX5_append_74 : decode cX5_append 74 = .ok (.lload_n 1, 1) := by decide +kernel
theorem dX5_append_75 : decode cX5_append 75 = .ok (.bipush 8, 2) := by decide +kernel
theorem dX5_append_77 : decode cX5_append 77 = .ok (.iload 4, 2) := by decide +kernel
theorem dX5_append_79 : decode cX5_append 79 = .ok (.imul, 1) := by decide +kernel
theorem dX5_append_80 : decode cX5_append 80 = .ok (.lshr, 1) := by decide +kernel
theorem dX5_append_81 : decode cX5_append 81 = .ok (.l2i, 1) := by decide +kernel
theorem dX5_append_82 : decode cX5_append 82 = .ok (.i2b, 1) := by decide +kernel
theorem dX5_append_83 : decode cX5_append 83 = .ok (.bastore, 1) := by decide +kernel
theorem dX5_append_84 : decode cX5_append 84 = .ok (.aload_n 0, 1) := by decide +kernel
theorem dX5_append_85 : decode cX5_append 85 = .ok (.dup, 1) := by decide +kernel
theorem dX5_append_86 : decode cX5_append 86 = .ok (.getfield 15, 3) := by decide +kernel
theorem dX5_append_89 : decode cX5_append 89 = .ok (.iconst 1, 1) := by decide +kernel
theorem dX5_append_90 : decode cX5_append 90 = .ok (.iadd, 1) := by decide +kernel
theorem dX5_append_91 : decode cX5_append 91 = .ok (.putfield 15, 3) := by decide +kernel
theorem dX5_append_94 : decode cX5_append 94 = .ok (.iinc 4 (-1), 3) := by decide +kernel
theorem dX5_append_97 : decode cX5_append 97 = .ok (.goto (-36), 3) := by decide +kernel
theorem dX5_append_100 : decode cX5_append 100 = .ok (.aload_n 0, 1) := by decide +kernel
theorem dX5_append_101 : decode cX5_append 101 = .ok (.getfield 15, 3) := by decide +kernel
theorem dX5_append_104 : decode cX5_append 104 = .ok (.ireturn, 1) := by decide +kernel
theorem dX5_readOwners_0 : decode cX5_readOwners 0 = .ok (.iconst 0, 1) := by decide +kernel
theorem dX5_readOwners_1 : decode cX5_readOwners 1 = .ok (.istore_n 1, 1) := by decide +kernel
theorem dX5_readOwners_2 : decode cX5_readOwners 2 = .ok (.iconst 0, 1) := by decide +kernel
theorem dX5_readOwners_3 : decode cX5_readOwners 3 = .ok (.istore_n 2, 1) := by decide +kernel
theorem dX5_readOwners_4 : decode cX5_readOwners 4 = .ok (.iload_n 2, 1) := by decide +kernel
theorem dX5_readOwners_5 : decode cX5_readOwners 5 = .ok (.aload_n 0, 1) := by decide +kernel
theorem dX5_readOwners_6 : decode cX5_readOwners 6 = .ok (.getfield 15, 3) := by decide +kernel
theorem dX5_readOwners_9 : decode cX5_readOwners 9 = .ok (.if_icmp .ge 63, 3) := by decide +kernel
theorem dX5_readOwners_12 : decode cX5_readOwners 12 = .ok (.aload_n 0, 1) := by decide +kernel
theorem dX5_readOwners_13 : decode cX5_readOwners 13 = .ok (.getfield 9, 3) := by decide +kernel
theorem dX5_readOwners_16 : decode cX5_readOwners 16 = .ok (.iload_n 2, 1) := by decide +kernel
theorem dX5_readOwners_17 : decode cX5_readOwners 17 = .ok (.baload, 1) := by decide +kernel
theorem dX5_readOwners_18 : decode cX5_readOwners 18 = .ok (.bipush 32, 2) := by decide +kernel
theorem dX5_readOwners_20 : decode cX5_readOwners 20 = .ok (.if_icmp .ne 6, 3) := by decide +kernel
theorem dX5_readOwners_23 : decode cX5_readOwners 23 = .ok (.goto 43, 3) := by decide +kernel
theorem dX5_readOwners_26 : decode cX5_readOwners 26 = .ok (.aload_n 0, 1) := by decide +kernel
theorem dX5_readOwners_27 : decode cX5_readOwners 27 = .ok (.getfield 9, 3) := by decide +kernel
theorem dX5_readOwners_30 : decode cX5_readOwners 30 = .ok (.iload_n 2, 1) := by decide +kernel
theorem dX5_readOwners_31 : decode cX5_readOwners 31 = .ok (.baload, 1) := by decide +kernel
theorem dX5_readOwners_32 : decode cX5_readOwners 32 = .ok (.bipush 48, 2) := by decide +kernel
theorem dX5_readOwners_34 : decode cX5_readOwners 34 = .ok (.isub, 1) := by decide +kernel
theorem dX5_readOwners_35 : decode cX5_readOwners 35 = .ok (.istore_n 3, 1) := by decide +kernel
theorem dX5_readOwners_36 : decode cX5_readOwners 36 = .ok (.iload_n 3, 1) := by decide +kernel
theorem dX5_readOwners_37 : decode cX5_readOwners 37 = .ok (.bipush 6, 2) := by decide +kernel
theorem dX5_readOwners_39 : decode cX5_readOwners 39 = .ok (.invokestatic 33, 3) := by decide +kernel
theorem dX5_readOwners_42 : decode cX5_readOwners 42 = .ok (.ifCond .eq 9, 3) := by decide +kernel
theorem dX5_readOwners_45 : decode cX5_readOwners 45 = .ok (.iload_n 1, 1) := by decide +kernel
theorem dX5_readOwners_46 : decode cX5_readOwners 46 = .ok (.bipush 9, 2) := by decide +kernel
theorem dX5_readOwners_48 : decode cX5_readOwners 48 = .ok (.if_icmp .lt 8, 3) := by decide +kernel
theorem dX5_readOwners_51 : decode cX5_readOwners 51 = .ok (.iload_n 2, 1) := by decide +kernel
theorem dX5_readOwners_52 : decode cX5_readOwners 52 = .ok (.invokestatic 37, 3) := by decide +kernel
theorem dX5_readOwners_55 : decode cX5_readOwners 55 = .ok (.ireturn, 1) := by decide +kernel
theorem dX5_readOwners_56 : decode cX5_readOwners 56 = .ok (.aload_n 0, 1) := by decide +kernel
theorem dX5_readOwners_57 : decode cX5_readOwners 57 = .ok (.getfield 19, 3) := by decide +kernel
theorem dX5_readOwners_60 : decode cX5_readOwners 60 = .ok (.iload_n 1, 1) := by decide +kernel
theorem dX5_readOwners_61 : decode cX5_readOwners 61 = .ok (.iload_n 3, 1) := by decide +kernel
theorem dX5_readOwners_62 : decode cX5_readOwners 62 = .ok (.iastore, 1) := by decide +kernel
theorem dX5_readOwners_63 : decode cX5_readOwners 63 = .ok (.iinc 1 1, 3) := by decide +kernel
theorem dX5_readOwners_66 : decode cX5_readOwners 66 = .ok (.iinc 2 1, 3) := by decide +kernel
theorem dX5_readOwners_69 : decode cX5_readOwners 69 = .ok (.goto (-65), 3) := by decide +kernel
theorem dX5_readOwners_72 : decode cX5_readOwners 72 = .ok (.iload_n 1, 1) := by decide +kernel
theorem dX5_readOwners_73 : decode cX5_readOwners 73 = .ok (.ifCond .ne 13, 3) := by decide +kernel
theorem dX5_readOwners_76 : decode cX5_readOwners 76 = .ok (.aload_n 0, 1) := by decide +kernel
theorem dX5_readOwners_77 : decode cX5_readOwners 77 = .ok (.getfield 15, 3) := by decide +kernel
theorem dX5_readOwners_80 : decode cX5_readOwners 80 = .ok (.invokestatic 37, 3) := by decide +kernel
theorem dX5_readOwners_83 : decode cX5_readOwners 83 = .ok (.goto 4, 3) := by decide +kernel
theorem dX5_readOwners_86 : decode cX5_readOwners 86 = .ok (.iload_n 1, 1) := by decide +kernel
theorem dX5_readOwners_87 : decode cX5_readOwners 87 = .ok (.ireturn, 1) := by decide +kernel
theorem dX5_readWords_0 : decode cX5_readWords 0 = .ok (.aload_n 0, 1) := by decide +kernel
theorem dX5_readWords_1 : decode cX5_readWords 1 = .ok (.iconst 0, 1) := by decide +kernel
theorem dX5_readWords_2 : decode cX5_readWords 2 = .ok (.putfield 29, 3) := by decide +kernel
theorem dX5_readWords_5 : decode cX5_readWords 5 = .ok (.iconst 0, 1) := by decide +kernel
theorem dX5_readWords_6 : decode cX5_readWords 6 = .ok (.istore_n 1, 1) := by decide +kernel
theorem dX5_readWords_7 : decode cX5_readWords 7 = .ok (.iload_n 1, 1) := by decide +kernel
theorem dX5_readWords_8 : decode cX5_readWords 8 = .ok (.iconst 4, 1) := by decide +kernel
theorem dX5_readWords_9 : decode cX5_readWords 9 = .ok (.if_icmp .ge 71, 3) := by decide +kernel
theorem dX5_readWords_12 : decode cX5_readWords 12 = .ok (.aload_n 0, 1) := by decide +kernel
theorem dX5_readWords_13 : decode cX5_readWords 13 = .ok (.aload_n 0, 1) := by decide +kernel
theorem dX5_readWords_14 : decode cX5_readWords 14 = .ok (.getfield 25, 3) := by decide +kernel
theorem dX5_readWords_17 : decode cX5_readWords 17 = .ok (.iload_n 1, 1) := by decide +kernel
theorem dX5_readWords_18 : decode cX5_readWords 18 = .ok (.aaload, 1) := by decide +kernel
theorem dX5_readWords_19 : decode cX5_readWords 19 = .ok (.invokevirtual 41, 3) := by decide +kernel
theorem dX5_readWords_22 : decode cX5_readWords 22 = .ok (.istore_n 2, 1) := by decide +kernel
theorem dX5_readWords_23 : decode cX5_readWords 23 = .ok (.iload_n 2, 1) := by decide +kernel
theorem dX5_readWords_24 : decode cX5_readWords 24 = .ok (.ifCond .eq 5, 3) := by decide +kernel
theorem dX5_readWords_27 : decode cX5_readWords 27 = .ok (.iload_n 2, 1) := by decide +kernel
theorem dX5_readWords_28 : decode cX5_readWords 28 = .ok (.ireturn, 1) := by decide +kernel
theorem dX5_readWords_29 : decode cX5_readWords 29 = .ok (.aload_n 0, 1) := by decide +kernel
theorem dX5_readWords_30 : decode cX5_readWords 30 = .ok (.invokevirtual 45, 3) := by decide +kernel
theorem dX5_readWords_33 : decode cX5_readWords 33 = .ok (.istore_n 3, 1) := by decide +kernel
theorem dX5_readWords_34 : decode cX5_readWords 34 = .ok (.iload_n 3, 1) := by decide +kernel
theorem dX5_readWords_35 : decode cX5_readWords 35 = .ok (.iconst (-1), 1) := by decide +kernel
theorem dX5_readWords_36 : decode cX5_readWords 36 = .ok (.if_icmp .ne 7, 3) := by decide +kernel
theorem dX5_readWords_39 : decode cX5_readWords 39 = .ok (.iload_n 1, 1) := by decide +kernel
theorem dX5_readWords_40 : decode cX5_readWords 40 = .ok (.iconst 1, 1) := by decide +kernel
theorem dX5_readWords_41 : decode cX5_readWords 41 = .ok (.iadd, 1) := by decide +kernel
theorem dX5_readWords_42 : decode cX5_readWords 42 = .ok (.ireturn, 1) := by decide +kernel
theorem dX5_readWords_43 : decode cX5_readWords 43 = .ok (.iload_n 3, 1) := by decide +kernel
theorem dX5_readWords_44 : decode cX5_readWords 44 = .ok (.bipush 44, 2) := by decide +kernel
theorem dX5_readWords_46 : decode cX5_readWords 46 = .ok (.if_icmp .ne 10, 3) := by decide +kernel
theorem dX5_readWords_49 : decode cX5_readWords 49 = .ok (.iload_n 1, 1) := by decide +kernel
theorem dX5_readWords_50 : decode cX5_readWords 50 = .ok (.iconst 1, 1) := by decide +kernel
theorem dX5_readWords_51 : decode cX5_readWords 51 = .ok (.iadd, 1) := by decide +kernel
theorem dX5_readWords_52 : decode cX5_readWords 52 = .ok (.iconst 4, 1) := by decide +kernel
theorem dX5_readWords_53 : decode cX5_readWords 53 = .ok (.if_icmp .ne 11, 3) := by decide +kernel
theorem dX5_readWords_56 : decode cX5_readWords 56 = .ok (.aload_n 0, 1) := by decide +kernel
theorem dX5_readWords_57 : decode cX5_readWords 57 = .ok (.getfield 29, 3) := by decide +kernel
theorem dX5_readWords_60 : decode cX5_readWords 60 = .ok (.invokestatic 37, 3) := by decide +kernel
theorem dX5_readWords_63 : decode cX5_readWords 63 = .ok (.ireturn, 1) := by decide +kernel
theorem dX5_readWords_64 : decode cX5_readWords 64 = .ok (.aload_n 0, 1) := by decide +kernel
theorem dX5_readWords_65 : decode cX5_readWords 65 = .ok (.dup, 1) := by decide +kernel
theorem dX5_readWords_66 : decode cX5_readWords 66 = .ok (.getfield 29, 3) := by decide +kernel
theorem dX5_readWords_69 : decode cX5_readWords 69 = .ok (.iconst 1, 1) := by decide +kernel
theorem dX5_readWords_70 : decode cX5_readWords 70 = .ok (.iadd, 1) := by decide +kernel
theorem dX5_readWords_71 : decode cX5_readWords 71 = .ok (.putfield 29, 3) := by decide +kernel
theorem dX5_readWords_74 : decode cX5_readWords 74 = .ok (.iinc 1 1, 3) := by decide +kernel
theorem dX5_readWords_77 : decode cX5_readWords 77 = .ok (.goto (-70), 3) := by decide +kernel
theorem dX5_readWords_80 : decode cX5_readWords 80 = .ok (.aload_n 0, 1) := by decide +kernel
theorem dX5_readWords_81 : decode cX5_readWords 81 = .ok (.getfield 29, 3) := by decide +kernel
theorem dX5_readWords_84 : decode cX5_readWords 84 = .ok (.invokestatic 37, 3) := by decide +kernel
theorem dX5_readWords_87 : decode cX5_readWords 87 = .ok (.ireturn, 1) := by decide +kernel
theorem dX5_readWord_0 : decode cX5_readWord 0 = .ok (.aload_n 1, 1) := by decide +kernel
theorem dX5_readWord_1 : decode cX5_readWord 1 = .ok (.iconst 0, 1) := by decide +kernel
theorem dX5_readWord_2 : decode cX5_readWord 2 = .ok (.putfield 49, 3) := by decide +kernel
theorem dX5_readWord_5 : decode cX5_readWord 5 = .ok (.aload_n 1, 1) := by decide +kernel
theorem dX5_readWord_6 : decode cX5_readWord 6 = .ok (.bipush 10, 2) := by decide +kernel
theorem dX5_readWord_8 : decode cX5_readWord 8 = .ok (.putfield 50, 3) := by decide +kernel
theorem dX5_readWord_11 : decode cX5_readWord 11 = .ok (.aload_n 1, 1) := by decide +kernel
theorem dX5_readWord_12 : decode cX5_readWord 12 = .ok (.getfield 49, 3) := by decide +kernel
theorem dX5_readWord_15 : decode cX5_readWord 15 = .ok (.bipush 6, 2) := by decide +kernel
theorem dX5_readWord_17 : decode cX5_readWord 17 = .ok (.if_icmp .ge 62, 3) := by decide +kernel
theorem dX5_readWord_20 : decode cX5_readWord 20 = .ok (.aload_n 0, 1) := by decide +kernel
theorem dX5_readWord_21 : decode cX5_readWord 21 = .ok (.invokevirtual 45, 3) := by decide +kernel
theorem dX5_readWord_24 : decode cX5_readWord 24 = .ok (.bipush 97, 2) := by decide +kernel
theorem dX5_readWord_26 : decode cX5_readWord 26 = .ok (.isub, 1) := by decide +kernel
theorem dX5_readWord_27 : decode cX5_readWord 27 = .ok (.bipush 26, 2) := by decide +kernel
theorem dX5_readWord_29 : decode cX5_readWord 29 = .ok (.invokestatic 33, 3) := by decide +kernel
theorem dX5_readWord_32 : decode cX5_readWord 32 = .ok (.ifCond .eq 47, 3) := by decide +kernel
theorem dX5_readWord_35 : decode cX5_readWord 35 = .ok (.aload_n 1, 1) := by decide +kernel
theorem dX5_readWord_36 : decode cX5_readWord 36 = .ok (.getfield 53, 3) := by decide +kernel
theorem dX5_readWord_39 : decode cX5_readWord 39 = .ok (.aload_n 1, 1) := by decide +kernel
theorem dX5_readWord_40 : decode cX5_readWord 40 = .ok (.getfield 49, 3) := by decide +kernel
theorem dX5_readWord_43 : decode cX5_readWord 43 = .ok (.aload_n 0, 1) := by decide +kernel
theorem dX5_readWord_44 : decode cX5_readWord 44 = .ok (.getfield 9, 3) := by decide +kernel
theorem dX5_readWord_47 : decode cX5_readWord 47 = .ok (.aload_n 0, 1) := by decide +kernel
theorem dX5_readWord_48 : decode cX5_readWord 48 = .ok (.getfield 29, 3) := by decide +kernel
theorem dX5_readWord_51 : decode cX5_readWord 51 = .ok (.baload, 1) := by decide +kernel
theorem dX5_readWord_52 : decode cX5_readWord 52 = .ok (.bipush 97, 2) := by decide +kernel
theorem dX5_readWord_54 : decode cX5_readWord 54 = .ok (.isub, 1) := by decide +kernel
theorem dX5_readWord_55 : decode cX5_readWord 55 = .ok (.iastore, 1) := by decide +kernel
theorem dX5_readWord_56 : decode cX5_readWord 56 = .ok (.aload_n 1, 1) := by decide +kernel
theorem dX5_readWord_57 : decode cX5_readWord 57 = .ok (.dup, 1) := by decide +kernel
theorem dX5_readWord_58 : decode cX5_readWord 58 = .ok (.getfield 49, 3) := by decide +kernel
theorem dX5_readWord_61 : decode cX5_readWord 61 = .ok (.iconst 1, 1) := by decide +kernel
theorem dX5_readWord_62 : decode cX5_readWord 62 = .ok (.iadd, 1) := by decide +kernel
theorem dX5_readWord_63 : decode cX5_readWord 63 = .ok (.putfield 49, 3) := by decide +kernel
theorem dX5_readWord_66 : decode cX5_readWord 66 = .ok (.aload_n 0, 1) := by decide +kernel
theorem dX5_readWord_67 : decode cX5_readWord 67 = .ok (.dup, 1) := by decide +kernel
theorem dX5_readWord_68 : decode cX5_readWord 68 = .ok (.getfield 29, 3) := by decide +kernel
theorem dX5_readWord_71 : decode cX5_readWord 71 = .ok (.iconst 1, 1) := by decide +kernel
theorem dX5_readWord_72 : decode cX5_readWord 72 = .ok (.iadd, 1) := by decide +kernel
theorem dX5_readWord_73 : decode cX5_readWord 73 = .ok (.putfield 29, 3) := by decide +kernel
theorem dX5_readWord_76 : decode cX5_readWord 76 = .ok (.goto (-65), 3) := by decide +kernel
theorem dX5_readWord_79 : decode cX5_readWord 79 = .ok (.aload_n 1, 1) := by decide +kernel
theorem dX5_readWord_80 : decode cX5_readWord 80 = .ok (.getfield 49, 3) := by decide +kernel
theorem dX5_readWord_83 : decode cX5_readWord 83 = .ok (.ifCond .ne 11, 3) := by decide +kernel
theorem dX5_readWord_86 : decode cX5_readWord 86 = .ok (.aload_n 0, 1) := by decide +kernel
theorem dX5_readWord_87 : decode cX5_readWord 87 = .ok (.getfield 29, 3) := by decide +kernel
theorem dX5_readWord_90 : decode cX5_readWord 90 = .ok (.invokestatic 37, 3) := by decide +kernel
theorem dX5_readWord_93 : decode cX5_readWord 93 = .ok (.ireturn, 1) := by decide +kernel
theorem dX5_readWord_94 : decode cX5_readWord 94 = .ok (.aload_n 0, 1) := by decide +kernel
theorem dX5_readWord_95 : decode cX5_readWord 95 = .ok (.invokevirtual 45, 3) := by decide +kernel
theorem dX5_readWord_98 : decode cX5_readWord 98 = .ok (.bipush 58, 2) := by decide +kernel
theorem dX5_readWord_100 : decode cX5_readWord 100 = .ok (.if_icmp .eq 5, 3) := by decide +kernel
theorem dX5_readWord_103 : decode cX5_readWord 103 = .ok (.iconst 0, 1) := by decide +kernel
theorem dX5_readWord_104 : decode cX5_readWord 104 = .ok (.ireturn, 1) := by decide +kernel
theorem dX5_readWord_105 : decode cX5_readWord 105 = .ok (.aload_n 0, 1) := by decide +kernel
theorem dX5_readWord_106 : decode cX5_readWord 106 = .ok (.dup, 1) := by decide +kernel
theorem dX5_readWord_107 : decode cX5_readWord 107 = .ok (.getfield 29, 3) := by decide +kernel
theorem dX5_readWord_110 : decode cX5_readWord 110 = .ok (.iconst 1, 1) := by decide +kernel
theorem dX5_readWord_111 : decode cX5_readWord 111 = .ok (.iadd, 1) := by decide +kernel
theorem dX5_readWord_112 : decode cX5_readWord 112 = .ok (.putfield 29, 3) := by decide +kernel
theorem dX5_readWord_115 : decode cX5_readWord 115 = .ok (.aload_n 0, 1) := by decide +kernel
theorem dX5_readWord_116 : decode cX5_readWord 116 = .ok (.aload_n 1, 1) := by decide +kernel
theorem dX5_readWord_117 : decode cX5_readWord 117 = .ok (.invokevirtual 56, 3) := by decide +kernel
theorem dX5_readWord_120 : decode cX5_readWord 120 = .ok (.ireturn, 1) := by decide +kernel
theorem dX5_readPay_0 : decode cX5_readPay 0 = .ok (.aload_n 0, 1) := by decide +kernel
theorem dX5_readPay_1 : decode cX5_readPay 1 = .ok (.invokevirtual 45, 3) := by decide +kernel
theorem dX5_readPay_4 : decode cX5_readPay 4 = .ok (.invokestatic 59, 3) := by decide +kernel
theorem dX5_readPay_7 : decode cX5_readPay 7 = .ok (.ifCond .ne 11, 3) := by decide +kernel
theorem dX5_readPay_10 : decode cX5_readPay 10 = .ok (.aload_n 0, 1) := by decide +kernel
theorem dX5_readPay_11 : decode cX5_readPay 11 = .ok (.getfield 29, 3) := by decide +kernel
theorem dX5_readPay_14 : decode cX5_readPay 14 = .ok (.invokestatic 37, 3) := by decide +kernel
theorem dX5_readPay_17 : decode cX5_readPay 17 = .ok (.ireturn, 1) := by decide +kernel
theorem dX5_readPay_18 : decode cX5_readPay 18 = .ok (.aload_n 0, 1) := by decide +kernel
theorem dX5_readPay_19 : decode cX5_readPay 19 = .ok (.getfield 29, 3) := by decide +kernel
theorem dX5_readPay_22 : decode cX5_readPay 22 = .ok (.istore_n 2, 1) := by decide +kernel
theorem dX5_readPay_23 : decode cX5_readPay 23 = .ok (.iconst 0, 1) := by decide +kernel
theorem dX5_readPay_24 : decode cX5_readPay 24 = .ok (.istore_n 3, 1) := by decide +kernel
theorem dX5_readPay_25 : decode cX5_readPay 25 = .ok (.aload_n 0, 1) := by decide +kernel
theorem dX5_readPay_26 : decode cX5_readPay 26 = .ok (.getfield 29, 3) := by decide +kernel
theorem dX5_readPay_29 : decode cX5_readPay 29 = .ok (.aload_n 0, 1) := by decide +kernel
theorem dX5_readPay_30 : decode cX5_readPay 30 = .ok (.getfield 15, 3) := by decide +kernel
theorem dX5_readPay_33 : decode cX5_readPay 33 = .ok (.if_icmp .ge 54, 3) := by decide +kernel
theorem dX5_readPay_36 : decode cX5_readPay 36 = .ok (.aload_n 0, 1) := by decide +kernel
theorem dX5_readPay_37 : decode cX5_readPay 37 = .ok (.getfield 9, 3) := by decide +kernel
theorem dX5_readPay_40 : decode cX5_readPay 40 = .ok (.aload_n 0, 1) := by decide +kernel
theorem dX5_readPay_41 : decode cX5_readPay 41 = .ok (.getfield 29, 3) := by decide +kernel
theorem dX5_readPay_44 : decode cX5_readPay 44 = .ok (.baload, 1) := by decide +kernel
theorem dX5_readPay_45 : decode cX5_readPay 45 = .ok (.invokestatic 59, 3) := by decide +kernel
theorem dX5_readPay_48 : decode cX5_readPay 48 = .ok (.ifCond .eq 39, 3) := by decide +kernel
theorem dX5_readPay_51 : decode cX5_readPay 51 = .ok (.bipush 100, 2) := by decide +kernel
theorem dX5_readPay_53 : decode cX5_readPay 53 = .ok (.bipush 10, 2) := by decide +kernel
theorem dX5_readPay_55 : decode cX5_readPay 55 = .ok (.iload_n 3, 1) := by decide +kernel
theorem dX5_readPay_56 : decode cX5_readPay 56 = .ok (.imul, 1) := by decide +kernel
theorem dX5_readPay_57 : decode cX5_readPay 57 = .ok (.aload_n 0, 1) := by decide +kernel
theorem dX5_readPay_58 : decode cX5_readPay 58 = .ok (.getfield 9, 3) := by decide +kernel
theorem dX5_readPay_61 : decode cX5_readPay 61 = .ok (.aload_n 0, 1) := by decide +kernel
theorem dX5_readPay_62 : decode cX5_readPay 62 = .ok (.getfield 29, 3) := by decide +kernel
theorem dX5_readPay_65 : decode cX5_readPay 65 = .ok (.baload, 1) := by decide +kernel
theorem dX5_readPay_66 : decode cX5_readPay 66 = .ok (.iadd, 1) := by decide +kernel
theorem dX5_readPay_67 : decode cX5_readPay 67 = .ok (.bipush 48, 2) := by decide +kernel
theorem dX5_readPay_69 : decode cX5_readPay 69 = .ok (.isub, 1) := by decide +kernel
theorem dX5_readPay_70 : decode cX5_readPay 70 = .ok (.invokestatic 63, 3) := by decide +kernel
theorem dX5_readPay_73 : decode cX5_readPay 73 = .ok (.istore_n 3, 1) := by decide +kernel
theorem dX5_readPay_74 : decode cX5_readPay 74 = .ok (.aload_n 0, 1) := by decide +kernel
theorem dX5_readPay_75 : decode cX5_readPay 75 = .ok (.dup, 1) := by decide +kernel
theorem dX5_readPay_76 : decode cX5_readPay 76 = .ok (.getfield 29, 3) := by decide +kernel
theorem dX5_readPay_79 : decode cX5_readPay 79 = .ok (.iconst 1, 1) := by decide +kernel
theorem dX5_readPay_80 : decode cX5_readPay 80 = .ok (.iadd, 1) := by decide +kernel
theorem dX5_readPay_81 : decode cX5_readPay 81 = .ok (.putfield 29, 3) := by decide +kernel
theorem dX5_readPay_84 : decode cX5_readPay 84 = .ok (.goto (-59), 3) := by decide +kernel
theorem dX5_readPay_87 : decode cX5_readPay 87 = .ok (.aload_n 1, 1) := by decide +kernel
theorem dX5_readPay_88 : decode cX5_readPay 88 = .ok (.iload_n 3, 1) := by decide +kernel
theorem dX5_readPay_89 : decode cX5_readPay 89 = .ok (.putfield 50, 3) := by decide +kernel
theorem dX5_readPay_92 : decode cX5_readPay 92 = .ok (.iload_n 3, 1) := by decide +kernel
theorem dX5_readPay_93 : decode cX5_readPay 93 = .ok (.bipush 99, 2) := by decide +kernel
theorem dX5_readPay_95 : decode cX5_readPay 95 = .ok (.if_icmp .le 10, 3) := by decide +kernel
theorem dX5_readPay_98 : decode cX5_readPay 98 = .ok (.iload_n 2, 1) := by decide +kernel
theorem dX5_readPay_99 : decode cX5_readPay 99 = .ok (.invokestatic 37, 3) := by decide +kernel
theorem dX5_readPay_102 : decode cX5_readPay 102 = .ok (.goto 4, 3) := by decide +kernel
theorem dX5_readPay_105 : decode cX5_readPay 105 = .ok (.iconst 0, 1) := by decide +kernel
theorem dX5_readPay_106 : decode cX5_readPay 106 = .ok (.ireturn, 1) := by decide +kernel
theorem dX5_isFigure_0 : decode cX5_isFigure 0 = .ok (.iload_n 0, 1) := by decide +kernel
theorem dX5_isFigure_1 : decode cX5_isFigure 1 = .ok (.bipush 48, 2) := by decide +kernel
theorem dX5_isFigure_3 : decode cX5_isFigure 3 = .ok (.isub, 1) := by decide +kernel
theorem dX5_isFigure_4 : decode cX5_isFigure 4 = .ok (.bipush 10, 2) := by decide +kernel
theorem dX5_isFigure_6 : decode cX5_isFigure 6 = .ok (.invokestatic 33, 3) := by decide +kernel
theorem dX5_isFigure_9 : decode cX5_isFigure 9 = .ok (.ireturn, 1) := by decide +kernel
theorem dX5_faultAt_0 : decode cX5_faultAt 0 = .ok (.bipush (-20), 2) := by decide +kernel
theorem dX5_faultAt_2 : decode cX5_faultAt 2 = .ok (.iload_n 0, 1) := by decide +kernel
theorem dX5_faultAt_3 : decode cX5_faultAt 3 = .ok (.isub, 1) := by decide +kernel
theorem dX5_faultAt_4 : decode cX5_faultAt 4 = .ok (.ireturn, 1) := by decide +kernel
theorem dX5_nextSign_0 : decode cX5_nextSign 0 = .ok (.aload_n 0, 1) := by decide +kernel
theorem dX5_nextSign_1 : decode cX5_nextSign 1 = .ok (.getfield 29, 3) := by decide +kernel
theorem dX5_nextSign_4 : decode cX5_nextSign 4 = .ok (.aload_n 0, 1) := by decide +kernel
theorem dX5_nextSign_5 : decode cX5_nextSign 5 = .ok (.getfield 15, 3) := by decide +kernel
theorem dX5_nextSign_8 : decode cX5_nextSign 8 = .ok (.if_icmp .ge 30, 3) := by decide +kernel
theorem dX5_nextSign_11 : decode cX5_nextSign 11 = .ok (.aload_n 0, 1) := by decide +kernel
theorem dX5_nextSign_12 : decode cX5_nextSign 12 = .ok (.getfield 9, 3) := by decide +kernel
theorem dX5_nextSign_15 : decode cX5_nextSign 15 = .ok (.aload_n 0, 1) := by decide +kernel
theorem dX5_nextSign_16 : decode cX5_nextSign 16 = .ok (.getfield 29, 3) := by decide +kernel
theorem dX5_nextSign_19 : decode cX5_nextSign 19 = .ok (.baload, 1) := by decide +kernel
theorem dX5_nextSign_20 : decode cX5_nextSign 20 = .ok (.bipush 32, 2) := by decide +kernel
theorem dX5_nextSign_22 : decode cX5_nextSign 22 = .ok (.if_icmp .ne 16, 3) := by decide +kernel
theorem dX5_nextSign_25 : decode cX5_nextSign 25 = .ok (.aload_n 0, 1) := by decide +kernel
theorem dX5_nextSign_26 : decode cX5_nextSign 26 = .ok (.dup, 1) := by decide +kernel
theorem dX5_nextSign_27 : decode cX5_nextSign 27 = .ok (.getfield 29, 3) := by decide +kernel
theorem dX5_nextSign_30 : decode cX5_nextSign 30 = .ok (.iconst 1, 1) := by decide +kernel
theorem dX5_nextSign_31 : decode cX5_nextSign 31 = .ok (.iadd, 1) := by decide +kernel
theorem dX5_nextSign_32 : decode cX5_nextSign 32 = .ok (.putfield 29, 3) := by decide +kernel
theorem dX5_nextSign_35 : decode cX5_nextSign 35 = .ok (.goto (-35), 3) := by decide +kernel
theorem dX5_nextSign_38 : decode cX5_nextSign 38 = .ok (.aload_n 0, 1) := by decide +kernel
theorem dX5_nextSign_39 : decode cX5_nextSign 39 = .ok (.getfield 29, 3) := by decide +kernel
theorem dX5_nextSign_42 : decode cX5_nextSign 42 = .ok (.aload_n 0, 1) := by decide +kernel
theorem dX5_nextSign_43 : decode cX5_nextSign 43 = .ok (.getfield 15, 3) := by decide +kernel
theorem dX5_nextSign_46 : decode cX5_nextSign 46 = .ok (.if_icmp .ge 15, 3) := by decide +kernel
theorem dX5_nextSign_49 : decode cX5_nextSign 49 = .ok (.aload_n 0, 1) := by decide +kernel
theorem dX5_nextSign_50 : decode cX5_nextSign 50 = .ok (.getfield 9, 3) := by decide +kernel
theorem dX5_nextSign_53 : decode cX5_nextSign 53 = .ok (.aload_n 0, 1) := by decide +kernel
theorem dX5_nextSign_54 : decode cX5_nextSign 54 = .ok (.getfield 29, 3) := by decide +kernel
theorem dX5_nextSign_57 : decode cX5_nextSign 57 = .ok (.baload, 1) := by decide +kernel
theorem dX5_nextSign_58 : decode cX5_nextSign 58 = .ok (.goto 4, 3) := by decide +kernel
theorem dX5_nextSign_61 : decode cX5_nextSign 61 = .ok (.iconst (-1), 1) := by decide +kernel
theorem dX5_nextSign_62 : decode cX5_nextSign 62 = .ok (.ireturn, 1) := by decide +kernel
theorem dX6_init_0 : decode cX6_init 0 = .ok (.aload_n 0, 1) := by decide +kernel
theorem dX6_init_1 : decode cX6_init 1 = .ok (.invokespecial 3, 3) := by decide +kernel
theorem dX6_init_4 : decode cX6_init 4 = .ok (.aload_n 0, 1) := by decide +kernel
theorem dX6_init_5 : decode cX6_init 5 = .ok (.iconst 0, 1) := by decide +kernel
theorem dX6_init_6 : decode cX6_init 6 = .ok (.putfield 9, 3) := by decide +kernel
theorem dX6_init_9 : decode cX6_init 9 = .ok (.aload_n 0, 1) := by decide +kernel
theorem dX6_init_10 : decode cX6_init 10 = .ok (.bipush 10, 2) := by decide +kernel
theorem dX6_init_12 : decode cX6_init 12 = .ok (.putfield 15, 3) := by decide +kernel
theorem dX6_init_15 : decode cX6_init 15 = .ok (.aload_n 0, 1) := by decide +kernel
theorem dX6_init_16 : decode cX6_init 16 = .ok (.bipush 6, 2) := by decide +kernel
theorem dX6_init_18 : decode cX6_init 18 = .ok (.newarray .int, 2) := by decide +kernel
theorem dX6_init_20 : decode cX6_init 20 = .ok (.putfield 18, 3) := by decide +kernel
theorem dX6_init_23 : decode cX6_init 23 = .ok (.return_, 1) := by decide +kernel
theorem dX6_copyFrom_0 : decode cX6_copyFrom 0 = .ok (.aload_n 0, 1) := by decide +kernel
theorem dX6_copyFrom_1 : decode cX6_copyFrom 1 = .ok (.aload_n 1, 1) := by decide +kernel
theorem dX6_copyFrom_2 : decode cX6_copyFrom 2 = .ok (.getfield 9, 3) := by decide +kernel
theorem dX6_copyFrom_5 : decode cX6_copyFrom 5 = .ok (.putfield 9, 3) := by decide +kernel
theorem dX6_copyFrom_8 : decode cX6_copyFrom 8 = .ok (.aload_n 0, 1) := by decide +kernel
theorem dX6_copyFrom_9 : decode cX6_copyFrom 9 = .ok (.aload_n 1, 1) := by decide +kernel
theorem dX6_copyFrom_10 : decode cX6_copyFrom 10 = .ok (.getfield 15, 3) := by decide +kernel
theorem dX6_copyFrom_13 : decode cX6_copyFrom 13 = .ok (.putfield 15, 3) := by decide +kernel
theorem dX6_copyFrom_16 : decode cX6_copyFrom 16 = .ok (.aload_n 1, 1) := by decide +kernel
theorem dX6_copyFrom_17 : decode cX6_copyFrom 17 = .ok (.getfield 18, 3) := by decide +kernel
theorem dX6_copyFrom_20 : decode cX6_copyFrom 20 = .ok (.iconst 0, 1) := by decide +kernel
theorem dX6_copyFrom_21 : decode cX6_copyFrom 21 = .ok (.aload_n 0, 1) := by decide +kernel
theorem dX6_copyFrom_22 : decode cX6_copyFrom 22 = .ok (.getfield 18, 3) := by decide +kernel
theorem dX6_copyFrom_25 : decode cX6_copyFrom 25 = .ok (.iconst 0, 1) := by decide +kernel
theorem dX6_copyFrom_26 : decode cX6_copyFrom 26 = .ok (.bipush 6, 2) := by decide +kernel
theorem dX6_copyFrom_28 : decode cX6_copyFrom 28 = .ok (.invokestatic 22, 3) := by decide +kernel
theorem dX6_copyFrom_31 : decode cX6_copyFrom 31 = .ok (.return_, 1) := by decide +kernel
theorem dX6_isLike_0 : decode cX6_isLike 0 = .ok (.aload_n 0, 1) := by decide +kernel
theorem dX6_isLike_1 : decode cX6_isLike 1 = .ok (.getfield 9, 3) := by decide +kernel
theorem dX6_isLike_4 : decode cX6_isLike 4 = .ok (.aload_n 1, 1) := by decide +kernel
theorem dX6_isLike_5 : decode cX6_isLike 5 = .ok (.getfield 9, 3) := by decide +kernel
theorem dX6_isLike_8 : decode cX6_isLike 8 = .ok (.if_icmp .eq 5, 3) := by decide +kernel
theorem dX6_isLike_11 : decode cX6_isLike 11 = .ok (.iconst 0, 1) := by decide +kernel
theorem dX6_isLike_12 : decode cX6_isLike 12 = .ok (.ireturn, 1) := by decide +kernel
theorem dX6_isLike_13 : decode cX6_isLike 13 = .ok (.iconst 0, 1) := by decide +kernel
theorem dX6_isLike_14 : decode cX6_isLike 14 = .ok (.istore_n 2, 1) := by decide +kernel
theorem dX6_isLike_15 : decode cX6_isLike 15 = .ok (.iload_n 2, 1) := by decide +kernel
theorem dX6_isLike_16 : decode cX6_isLike 16 = .ok (.aload_n 0, 1) := by decide +kernel
theorem dX6_isLike_17 : decode cX6_isLike 17 = .ok (.getfield 9, 3) := by decide +kernel
theorem dX6_isLike_20 : decode cX6_isLike 20 = .ok (.if_icmp .ge 26, 3) := by decide +kernel
theorem dX6_isLike_23 : decode cX6_isLike 23 = .ok (.aload_n 0, 1) := by decide +kernel
theorem dX6_isLike_24 : decode cX6_isLike 24 = .ok (.getfield 18, 3) := by decide +kernel
theorem dX6_isLike_27 : decode cX6_isLike 27 = .ok (.iload_n 2, 1) := by decide +kernel
theorem dX6_isLike_28 : decode cX6_isLike 28 = .ok (.iaload, 1) := by decide +kernel
theorem dX6_isLike_29 : decode cX6_isLike 29 = .ok (.aload_n 1, 1) := by decide +kernel
theorem dX6_isLike_30 : decode cX6_isLike 30 = .ok (.getfield 18, 3) := by decide +kernel
theorem dX6_isLike_33 : decode cX6_isLike 33 = .ok (.iload_n 2, 1) := by decide +kernel
theorem dX6_isLike_34 : decode cX6_isLike 34 = .ok (.iaload, 1) := by decide +kernel
theorem dX6_isLike_35 : decode cX6_isLike 35 = .ok (.if_icmp .eq 5, 3) := by decide +kernel
theorem dX6_isLike_38 : decode cX6_isLike 38 = .ok (.iconst 0, 1) := by decide +kernel
theorem dX6_isLike_39 : decode cX6_isLike 39 = .ok (.ireturn, 1) := by decide +kernel
theorem dX6_isLike_40 : decode cX6_isLike 40 = .ok (.iinc 2 1, 3) := by decide +kernel
theorem dX6_isLike_43 : decode cX6_isLike 43 = .ok (.goto (-28), 3) := by decide +kernel
theorem dX6_isLike_46 : decode cX6_isLike 46 = .ok (.iconst 1, 1) := by decide +kernel
theorem dX6_isLike_47 : decode cX6_isLike 47 = .ok (.ireturn, 1) := by decide +kernel
theorem dX6_hasFormIn_0 : decode cX6_hasFormIn 0 = .ok (.iconst 0, 1) := by decide +kernel
theorem dX6_hasFormIn_1 : decode cX6_hasFormIn 1 = .ok (.istore_n 3, 1) := by decide +kernel
theorem dX6_hasFormIn_2 : decode cX6_hasFormIn 2 = .ok (.iconst 0, 1) := by decide +kernel
theorem dX6_hasFormIn_3 : decode cX6_hasFormIn 3 = .ok (.istore 4, 2) := by decide +kernel
theorem dX6_hasFormIn_5 : decode cX6_hasFormIn 5 = .ok (.iload 4, 2) := by decide +kernel
theorem dX6_hasFormIn_7 : decode cX6_hasFormIn 7 = .ok (.aload_n 0, 1) := by decide +kernel
theorem dX6_hasFormIn_8 : decode cX6_hasFormIn 8 = .ok (.getfield 9, 3) := by decide +kernel
theorem dX6_hasFormIn_11 : decode cX6_hasFormIn 11 = .ok (.if_icmp .ge 38, 3) := by decide +kernel
theorem dX6_hasFormIn_14 : decode cX6_hasFormIn 14 = .ok (.iload_n 1, 1) := by decide +kernel
theorem dX6_hasFormIn_15 : decode cX6_hasFormIn 15 = .ok (.iload 4, 2) := by decide +kernel
theorem dX6_hasFormIn_17 : decode cX6_hasFormIn 17 = .ok (.ishr, 1) := by decide +kernel
theorem dX6_hasFormIn_18 : decode cX6_hasFormIn 18 = .ok (.iconst 1, 1) := by decide +kernel
theorem dX6_hasFormIn_19 : decode cX6_hasFormIn 19 = .ok (.iand, 1) := by decide +kernel
theorem dX6_hasFormIn_20 : decode cX6_hasFormIn 20 = .ok (.iconst 1, 1) := by decide +kernel
theorem dX6_hasFormIn_21 : decode cX6_hasFormIn 21 = .ok (.if_icmp .ne 22, 3) := by decide +kernel
theorem dX6_hasFormIn_24 : decode cX6_hasFormIn 24 = .ok (.aload_n 2, 1) := by decide +kernel
theorem dX6_hasFormIn_25 : decode cX6_hasFormIn 25 = .ok (.aload_n 0, 1) := by decide +kernel
theorem dX6_hasFormIn_26 : decode cX6_hasFormIn 26 = .ok (.getfield 18, 3) := by decide +kernel
theorem dX6_hasFormIn_29 : decode cX6_hasFormIn 29 = .ok (.iload 4, 2) := by decide +kernel
theorem dX6_hasFormIn_31 : decode cX6_hasFormIn 31 = .ok (.iaload, 1) := by decide +kernel
theorem dX6_hasFormIn_32 : decode cX6_hasFormIn 32 = .ok (.iload_n 3, 1) := by decide +kernel
theorem dX6_hasFormIn_33 : decode cX6_hasFormIn 33 = .ok (.invokevirtual 28, 3) := by decide +kernel
theorem dX6_hasFormIn_36 : decode cX6_hasFormIn 36 = .ok (.istore_n 3, 1) := by decide +kernel
theorem dX6_hasFormIn_37 : decode cX6_hasFormIn 37 = .ok (.iload_n 3, 1) := by decide +kernel
theorem dX6_hasFormIn_38 : decode cX6_hasFormIn 38 = .ok (.ifCond .ge 5, 3) := by decide +kernel
theorem dX6_hasFormIn_41 : decode cX6_hasFormIn 41 = .ok (.iconst 0, 1) := by decide +kernel
theorem dX6_hasFormIn_42 : decode cX6_hasFormIn 42 = .ok (.ireturn, 1) := by decide +kernel
theorem dX6_hasFormIn_43 : decode cX6_hasFormIn 43 = .ok (.iinc 4 1, 3) := by decide +kernel
theorem dX6_hasFormIn_46 : decode cX6_hasFormIn 46 = .ok (.goto (-41), 3) := by decide +kernel
theorem dX6_hasFormIn_49 : decode cX6_hasFormIn 49 = .ok (.iconst 1, 1) := by decide +kernel
theorem dX6_hasFormIn_50 : decode cX6_hasFormIn 50 = .ok (.ireturn, 1) := by decide +kernel
theorem dX6_placeBehind_0 : decode cX6_placeBehind 0 = .ok (.iload_n 2, 1) := by decide +kernel
theorem dX6_placeBehind_1 : decode cX6_placeBehind 1 = .ok (.istore_n 3, 1) := by decide +kernel
theorem dX6_placeBehind_2 : decode cX6_placeBehind 2 = .ok (.iload_n 3, 1) := by decide +kernel
theorem dX6_placeBehind_3 : decode cX6_placeBehind 3 = .ok (.aload_n 0, 1) := by decide +kernel
theorem dX6_placeBehind_4 : decode cX6_placeBehind 4 = .ok (.getfield 9, 3) := by decide +kernel
theorem dX6_placeBehind_7 : decode cX6_placeBehind 7 = .ok (.if_icmp .ge 23, 3) := by decide +kernel
theorem dX6_placeBehind_10 : decode cX6_placeBehind 10 = .ok (.aload_n 0, 1) := by decide +kernel
theorem dX6_placeBehind_11 : decode cX6_placeBehind 11 = .ok (.getfield 18, 3) := by decide +kernel
theorem dX6_placeBehind_14 : decode cX6_placeBehind 14 = .ok (.iload_n 3, 1) := by decide +kernel
theorem dX6_placeBehind_15 : decode cX6_placeBehind 15 = .ok (.iaload, 1) := by decide +kernel
theorem dX6_placeBehind_16 : decode cX6_placeBehind 16 = .ok (.iload_n 1, 1) := by decide +kernel
theorem dX6_placeBehind_17 : decode cX6_placeBehind 17 = .ok (.if_icmp .ne 7, 3) := by decide +kernel
theorem dX6_placeBehind_20 : decode cX6_placeBehind 20 = .ok (.iload_n 3, 1) := by decide +kernel
theorem dX6_placeBehind_21 : decode cX6_placeBehind 21 = .ok (.iconst 1, 1) := by decide +kernel
theorem dX6_placeBehind_22 : decode cX6_placeBehind 22 = .ok (.iadd, 1) := by decide +kernel
theorem dX6_placeBehind_23 : decode cX6_placeBehind 23 = .ok (.ireturn, 1) := by decide +kernel
theorem dX6_placeBehind_24 : decode cX6_placeBehind 24 = .ok (.iinc 3 1, 3) := by decide +kernel
theorem dX6_placeBehind_27 : decode cX6_placeBehind 27 = .ok (.goto (-25), 3) := by decide +kernel
theorem dX6_placeBehind_30 : decode cX6_placeBehind 30 = .ok (.bipush (-4), 2) := by decide +kernel
theorem dX6_placeBehind_32 : decode cX6_placeBehind 32 = .ok (.ireturn, 1) := by decide +kernel
theorem dX7_init_0 : decode cX7_init 0 = .ok (.aload_n 0, 1) := by decide +kernel
theorem dX7_init_1 : decode cX7_init 1 = .ok (.invokespecial 3, 3) := by decide +kernel
theorem dX7_init_4 : decode cX7_init 4 = .ok (.aload_n 0, 1) := by decide +kernel
theorem dX7_init_5 : decode cX7_init 5 = .ok (.new 9, 3) := by decide +kernel
theorem dX7_init_8 : decode cX7_init 8 = .ok (.dup, 1) := by decide +kernel
theorem dX7_init_9 : decode cX7_init 9 = .ok (.invokespecial 11, 3) := by decide +kernel
theorem dX7_init_12 : decode cX7_init 12 = .ok (.putfield 12, 3) := by decide +kernel
theorem dX7_init_15 : decode cX7_init 15 = .ok (.aload_n 0, 1) := by decide +kernel
theorem dX7_init_16 : decode cX7_init 16 = .ok (.new 9, 3) := by decide +kernel
