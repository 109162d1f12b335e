theorem dX8_readNumber_6 : decode cX8_readNumber 6 = .ok (.getfield 144, 3) := by decide +kernel
theorem dX8_readNumber_9 : decode cX8_readNumber 9 = .ok (.istore_n 3, 1) := by decide +kernel
theorem dX8_readNumber_10 : decode cX8_readNumber 10 = .ok (.iconst 0, 1) := by decide +kernel
theorem dX8_readNumber_11 : decode cX8_readNumber 11 = .ok (.istore 4, 2) := by decide +kernel
theorem dX8_readNumber_13 : decode cX8_readNumber 13 = .ok (.aload_n 0, 1) := by decide +kernel
theorem dX8_readNumber_14 : decode cX8_readNumber 14 = .ok (.getfield 144, 3) := by decide +kernel
theorem dX8_readNumber_17 : decode cX8_readNumber 17 = .ok (.aload_n 0, 1) := by decide +kernel
theorem dX8_readNumber_18 : decode cX8_readNumber 18 = .ok (.getfield 141, 3) := by decide +kernel
theorem dX8_readNumber_21 : decode cX8_readNumber 21 = .ok (.if_icmp .ge 71, 3) := by decide +kernel
theorem dX8_readNumber_24 : decode cX8_readNumber 24 = .ok (.aload_n 0, 1) := by decide +kernel
theorem dX8_readNumber_25 : decode cX8_readNumber 25 = .ok (.getfield 31, 3) := by decide +kernel
theorem dX8_readNumber_28 : decode cX8_readNumber 28 = .ok (.aload_n 0, 1) := by decide +kernel
theorem dX8_readNumber_29 : decode cX8_readNumber 29 = .ok (.getfield 144, 3) := by decide +kernel
theorem dX8_readNumber_32 : decode cX8_readNumber 32 = .ok (.iaload, 1) := by decide +kernel
theorem dX8_readNumber_33 : decode cX8_readNumber 33 = .ok (.i2l, 1) := by decide +kernel
theorem dX8_readNumber_34 : decode cX8_readNumber 34 = .ok (.ldc2_w 151, 3) := by decide +kernel
theorem dX8_readNumber_37 : decode cX8_readNumber 37 = .ok (.ldc2_w 153, 3) := by decide +kernel
theorem dX8_readNumber_40 : decode cX8_readNumber 40 = .ok (.invokestatic 75, 3) := by decide +kernel
theorem dX8_readNumber_43 : decode cX8_readNumber 43 = .ok (.ifCond .eq 49, 3) := by decide +kernel
theorem dX8_readNumber_46 : decode cX8_readNumber 46 = .ok (.iload 4, 2) := by decide +kernel
theorem dX8_readNumber_48 : decode cX8_readNumber 48 = .ok (.sipush 999, 3) := by decide +kernel
theorem dX8_readNumber_51 : decode cX8_readNumber 51 = .ok (.if_icmp .le 8, 3) := by decide +kernel
theorem dX8_readNumber_54 : decode cX8_readNumber 54 = .ok (.iload 4, 2) := by decide +kernel
theorem dX8_readNumber_56 : decode cX8_readNumber 56 = .ok (.goto 21, 3) := by decide +kernel
theorem dX8_readNumber_59 : decode cX8_readNumber 59 = .ok (.bipush 10, 2) := by decide +kernel
theorem dX8_readNumber_61 : decode cX8_readNumber 61 = .ok (.iload 4, 2) := by decide +kernel
theorem dX8_readNumber_63 : decode cX8_readNumber 63 = .ok (.imul, 1) := by decide +kernel
theorem dX8_readNumber_64 : decode cX8_readNumber 64 = .ok (.aload_n 0, 1) := by decide +kernel
theorem dX8_readNumber_65 : decode cX8_readNumber 65 = .ok (.getfield 31, 3) := by decide +kernel
theorem dX8_readNumber_68 : decode cX8_readNumber 68 = .ok (.aload_n 0, 1) := by decide +kernel
theorem dX8_readNumber_69 : decode cX8_readNumber 69 = .ok (.getfield 144, 3) := by decide +kernel
theorem dX8_readNumber_72 : decode cX8_readNumber 72 = .ok (.iaload, 1) := by decide +kernel
theorem dX8_readNumber_73 : decode cX8_readNumber 73 = .ok (.iadd, 1) := by decide +kernel
theorem dX8_readNumber_74 : decode cX8_readNumber 74 = .ok (.bipush 48, 2) := by decide +kernel
theorem dX8_readNumber_76 : decode cX8_readNumber 76 = .ok (.isub, 1) := by decide +kernel
theorem dX8_readNumber_77 : decode cX8_readNumber 77 = .ok (.istore 4, 2) := by decide +kernel
theorem dX8_readNumber_79 : decode cX8_readNumber 79 = .ok (.aload_n 0, 1) := by decide +kernel
theorem dX8_readNumber_80 : decode cX8_readNumber 80 = .ok (.dup, 1) := by decide +kernel
theorem dX8_readNumber_81 : decode cX8_readNumber 81 = .ok (.getfield 144, 3) := by decide +kernel
theorem dX8_readNumber_84 : decode cX8_readNumber 84 = .ok (.iconst 1, 1) := by decide +kernel
theorem dX8_readNumber_85 : decode cX8_readNumber 85 = .ok (.iadd, 1) := by decide +kernel
theorem dX8_readNumber_86 : decode cX8_readNumber 86 = .ok (.putfield 144, 3) := by decide +kernel
theorem dX8_readNumber_89 : decode cX8_readNumber 89 = .ok (.goto (-76), 3) := by decide +kernel
theorem dX8_readNumber_92 : decode cX8_readNumber 92 = .ok (.aload_n 0, 1) := by decide +kernel
theorem dX8_readNumber_93 : decode cX8_readNumber 93 = .ok (.getfield 144, 3) := by decide +kernel
theorem dX8_readNumber_96 : decode cX8_readNumber 96 = .ok (.iload_n 3, 1) := by decide +kernel
theorem dX8_readNumber_97 : decode cX8_readNumber 97 = .ok (.if_icmp .ne 5, 3) := by decide +kernel
theorem dX8_readNumber_100 : decode cX8_readNumber 100 = .ok (.iconst (-1), 1) := by decide +kernel
theorem dX8_readNumber_101 : decode cX8_readNumber 101 = .ok (.ireturn, 1) := by decide +kernel
theorem dX8_readNumber_102 : decode cX8_readNumber 102 = .ok (.iload 4, 2) := by decide +kernel
theorem dX8_readNumber_104 : decode cX8_readNumber 104 = .ok (.i2l, 1) := by decide +kernel
theorem dX8_readNumber_105 : decode cX8_readNumber 105 = .ok (.iload_n 1, 1) := by decide +kernel
theorem dX8_readNumber_106 : decode cX8_readNumber 106 = .ok (.i2l, 1) := by decide +kernel
theorem dX8_readNumber_107 : decode cX8_readNumber 107 = .ok (.iload_n 2, 1) := by decide +kernel
theorem dX8_readNumber_108 : decode cX8_readNumber 108 = .ok (.i2l, 1) := by decide +kernel
theorem dX8_readNumber_109 : decode cX8_readNumber 109 = .ok (.invokestatic 75, 3) := by decide +kernel
theorem dX8_readNumber_112 : decode cX8_readNumber 112 = .ok (.ifCond .ne 10, 3) := by decide +kernel
theorem dX8_readNumber_115 : decode cX8_readNumber 115 = .ok (.aload_n 0, 1) := by decide +kernel
theorem dX8_readNumber_116 : decode cX8_readNumber 116 = .ok (.iload_n 3, 1) := by decide +kernel
theorem dX8_readNumber_117 : decode cX8_readNumber 117 = .ok (.putfield 144, 3) := by decide +kernel
theorem dX8_readNumber_120 : decode cX8_readNumber 120 = .ok (.iconst (-1), 1) := by decide +kernel
theorem dX8_readNumber_121 : decode cX8_readNumber 121 = .ok (.ireturn, 1) := by decide +kernel
theorem dX8_readNumber_122 : decode cX8_readNumber 122 = .ok (.iload 4, 2) := by decide +kernel
theorem dX8_readNumber_124 : decode cX8_readNumber 124 = .ok (.ireturn, 1) := by decide +kernel
theorem dX8_strips_0 : decode cX8_strips 0 = .ok (.aload_n 0, 1) := by decide +kernel
theorem dX8_strips_1 : decode cX8_strips 1 = .ok (.iconst 0, 1) := by decide +kernel
theorem dX8_strips_2 : decode cX8_strips 2 = .ok (.putfield 144, 3) := by decide +kernel
theorem dX8_strips_5 : decode cX8_strips 5 = .ok (.aload_n 0, 1) := by decide +kernel
theorem dX8_strips_6 : decode cX8_strips 6 = .ok (.iconst 0, 1) := by decide +kernel
theorem dX8_strips_7 : decode cX8_strips 7 = .ok (.putfield 155, 3) := by decide +kernel
theorem dX8_strips_10 : decode cX8_strips 10 = .ok (.aload_n 0, 1) := by decide +kernel
theorem dX8_strips_11 : decode cX8_strips 11 = .ok (.getfield 155, 3) := by decide +kernel
theorem dX8_strips_14 : decode cX8_strips 14 = .ok (.bipush 9, 2) := by decide +kernel
theorem dX8_strips_16 : decode cX8_strips 16 = .ok (.if_icmp .ge 59, 3) := by decide +kernel
theorem dX8_strips_19 : decode cX8_strips 19 = .ok (.aload_n 0, 1) := by decide +kernel
theorem dX8_strips_20 : decode cX8_strips 20 = .ok (.invokevirtual 147, 3) := by decide +kernel
theorem dX8_strips_23 : decode cX8_strips 23 = .ok (.i2l, 1) := by decide +kernel
theorem dX8_strips_24 : decode cX8_strips 24 = .ok (.ldc2_w 151, 3) := by decide +kernel
theorem dX8_strips_27 : decode cX8_strips 27 = .ok (.ldc2_w 158, 3) := by decide +kernel
theorem dX8_strips_30 : decode cX8_strips 30 = .ok (.invokestatic 75, 3) := by decide +kernel
theorem dX8_strips_33 : decode cX8_strips 33 = .ok (.ifCond .eq 42, 3) := by decide +kernel
theorem dX8_strips_36 : decode cX8_strips 36 = .ok (.aload_n 0, 1) := by decide +kernel
theorem dX8_strips_37 : decode cX8_strips 37 = .ok (.getfield 34, 3) := by decide +kernel
theorem dX8_strips_40 : decode cX8_strips 40 = .ok (.aload_n 0, 1) := by decide +kernel
theorem dX8_strips_41 : decode cX8_strips 41 = .ok (.getfield 155, 3) := by decide +kernel
theorem dX8_strips_44 : decode cX8_strips 44 = .ok (.aload_n 0, 1) := by decide +kernel
theorem dX8_strips_45 : decode cX8_strips 45 = .ok (.invokevirtual 147, 3) := by decide +kernel
theorem dX8_strips_48 : decode cX8_strips 48 = .ok (.bipush 48, 2) := by decide +kernel
theorem dX8_strips_50 : decode cX8_strips 50 = .ok (.isub, 1) := by decide +kernel
theorem dX8_strips_51 : decode cX8_strips 51 = .ok (.iastore, 1) := by decide +kernel
theorem dX8_strips_52 : decode cX8_strips 52 = .ok (.aload_n 0, 1) := by decide +kernel
theorem dX8_strips_53 : decode cX8_strips 53 = .ok (.dup, 1) := by decide +kernel
theorem dX8_strips_54 : decode cX8_strips 54 = .ok (.getfield 155, 3) := by decide +kernel
theorem dX8_strips_57 : decode cX8_strips 57 = .ok (.iconst 1, 1) := by decide +kernel
theorem dX8_strips_58 : decode cX8_strips 58 = .ok (.iadd, 1) := by decide +kernel
theorem dX8_strips_59 : decode cX8_strips 59 = .ok (.putfield 155, 3) := by decide +kernel
theorem dX8_strips_62 : decode cX8_strips 62 = .ok (.aload_n 0, 1) := by decide +kernel
theorem dX8_strips_63 : decode cX8_strips 63 = .ok (.dup, 1) := by decide +kernel
theorem dX8_strips_64 : decode cX8_strips 64 = .ok (.getfield 144, 3) := by decide +kernel
theorem dX8_strips_67 : decode cX8_strips 67 = .ok (.iconst 1, 1) := by decide +kernel
theorem dX8_strips_68 : decode cX8_strips 68 = .ok (.iadd, 1) := by decide +kernel
theorem dX8_strips_69 : decode cX8_strips 69 = .ok (.putfield 144, 3) := by decide +kernel
theorem dX8_strips_72 : decode cX8_strips 72 = .ok (.goto (-62), 3) := by decide +kernel
theorem dX8_strips_75 : decode cX8_strips 75 = .ok (.aload_n 0, 1) := by decide +kernel
theorem dX8_strips_76 : decode cX8_strips 76 = .ok (.getfield 155, 3) := by decide +kernel
theorem dX8_strips_79 : decode cX8_strips 79 = .ok (.ifCond .le 14, 3) := by decide +kernel
theorem dX8_strips_82 : decode cX8_strips 82 = .ok (.aload_n 0, 1) := by decide +kernel
theorem dX8_strips_83 : decode cX8_strips 83 = .ok (.invokevirtual 147, 3) := by decide +kernel
theorem dX8_strips_86 : decode cX8_strips 86 = .ok (.ifCond .ge 7, 3) := by decide +kernel
theorem dX8_strips_89 : decode cX8_strips 89 = .ok (.iconst 1, 1) := by decide +kernel
theorem dX8_strips_90 : decode cX8_strips 90 = .ok (.goto 4, 3) := by decide +kernel
theorem dX8_strips_93 : decode cX8_strips 93 = .ok (.iconst 0, 1) := by decide +kernel
theorem dX8_strips_94 : decode cX8_strips 94 = .ok (.istore_n 1, 1) := by decide +kernel
theorem dX8_strips_95 : decode cX8_strips 95 = .ok (.aload_n 0, 1) := by decide +kernel
theorem dX8_strips_96 : decode cX8_strips 96 = .ok (.iconst 0, 1) := by decide +kernel
theorem dX8_strips_97 : decode cX8_strips 97 = .ok (.putfield 141, 3) := by decide +kernel
theorem dX8_strips_100 : decode cX8_strips 100 = .ok (.iload_n 1, 1) := by decide +kernel
theorem dX8_strips_101 : decode cX8_strips 101 = .ok (.ifCond .ne 11, 3) := by decide +kernel
theorem dX8_strips_104 : decode cX8_strips 104 = .ok (.bipush (-20), 2) := by decide +kernel
theorem dX8_strips_106 : decode cX8_strips 106 = .ok (.aload_n 0, 1) := by decide +kernel
theorem dX8_strips_107 : decode cX8_strips 107 = .ok (.getfield 144, 3) := by decide +kernel
theorem dX8_strips_110 : decode cX8_strips 110 = .ok (.isub, 1) := by decide +kernel
theorem dX8_strips_111 : decode cX8_strips 111 = .ok (.ireturn, 1) := by decide +kernel
theorem dX8_strips_112 : decode cX8_strips 112 = .ok (.aload_n 0, 1) := by decide +kernel
theorem dX8_strips_113 : decode cX8_strips 113 = .ok (.iconst 0, 1) := by decide +kernel
theorem dX8_strips_114 : decode cX8_strips 114 = .ok (.putfield 71, 3) := by decide +kernel
theorem dX8_strips_117 : decode cX8_strips 117 = .ok (.iconst 0, 1) := by decide +kernel
theorem dX8_strips_118 : decode cX8_strips 118 = .ok (.istore_n 2, 1) := by decide +kernel
theorem dX8_strips_119 : decode cX8_strips 119 = .ok (.iload_n 2, 1) := by decide +kernel
theorem dX8_strips_120 : decode cX8_strips 120 = .ok (.aload_n 0, 1) := by decide +kernel
theorem dX8_strips_121 : decode cX8_strips 121 = .ok (.getfield 155, 3) := by decide +kernel
theorem dX8_strips_124 : decode cX8_strips 124 = .ok (.if_icmp .ge 19, 3) := by decide +kernel
theorem dX8_strips_127 : decode cX8_strips 127 = .ok (.aload_n 0, 1) := by decide +kernel
theorem dX8_strips_128 : decode cX8_strips 128 = .ok (.aload_n 0, 1) := by decide +kernel
theorem dX8_strips_129 : decode cX8_strips 129 = .ok (.getfield 34, 3) := by decide +kernel
theorem dX8_strips_132 : decode cX8_strips 132 = .ok (.iload_n 2, 1) := by decide +kernel
theorem dX8_strips_133 : decode cX8_strips 133 = .ok (.iaload, 1) := by decide +kernel
theorem dX8_strips_134 : decode cX8_strips 134 = .ok (.invokevirtual 88, 3) := by decide +kernel
theorem dX8_strips_137 : decode cX8_strips 137 = .ok (.iinc 2 1, 3) := by decide +kernel
theorem dX8_strips_140 : decode cX8_strips 140 = .ok (.goto (-21), 3) := by decide +kernel
theorem dX8_strips_143 : decode cX8_strips 143 = .ok (.aload_n 0, 1) := by decide +kernel
theorem dX8_strips_144 : decode cX8_strips 144 = .ok (.getfield 71, 3) := by decide +kernel
theorem dX8_strips_147 : decode cX8_strips 147 = .ok (.ireturn, 1) := by decide +kernel
theorem dX8_readWord_0 : decode cX8_readWord 0 = .ok (.iconst 0, 1) := by decide +kernel
theorem dX8_readWord_1 : decode cX8_readWord 1 = .ok (.istore_n 2, 1) := by decide +kernel
theorem dX8_readWord_2 : decode cX8_readWord 2 = .ok (.iload_n 2, 1) := by decide +kernel
theorem dX8_readWord_3 : decode cX8_readWord 3 = .ok (.bipush 6, 2) := by decide +kernel
theorem dX8_readWord_5 : decode cX8_readWord 5 = .ok (.if_icmp .ge 53, 3) := by decide +kernel
theorem dX8_readWord_8 : decode cX8_readWord 8 = .ok (.aload_n 0, 1) := by decide +kernel
theorem dX8_readWord_9 : decode cX8_readWord 9 = .ok (.invokevirtual 147, 3) := by decide +kernel
theorem dX8_readWord_12 : decode cX8_readWord 12 = .ok (.i2l, 1) := by decide +kernel
theorem dX8_readWord_13 : decode cX8_readWord 13 = .ok (.ldc2_w 160, 3) := by decide +kernel
theorem dX8_readWord_16 : decode cX8_readWord 16 = .ok (.ldc2_w 162, 3) := by decide +kernel
theorem dX8_readWord_19 : decode cX8_readWord 19 = .ok (.invokestatic 75, 3) := by decide +kernel
theorem dX8_readWord_22 : decode cX8_readWord 22 = .ok (.ifCond .eq 36, 3) := by decide +kernel
theorem dX8_readWord_25 : decode cX8_readWord 25 = .ok (.aload_n 0, 1) := by decide +kernel
theorem dX8_readWord_26 : decode cX8_readWord 26 = .ok (.getfield 34, 3) := by decide +kernel
theorem dX8_readWord_29 : decode cX8_readWord 29 = .ok (.iload_n 1, 1) := by decide +kernel
theorem dX8_readWord_30 : decode cX8_readWord 30 = .ok (.iconst 2, 1) := by decide +kernel
theorem dX8_readWord_31 : decode cX8_readWord 31 = .ok (.iadd, 1) := by decide +kernel
theorem dX8_readWord_32 : decode cX8_readWord 32 = .ok (.iload_n 2, 1) := by decide +kernel
theorem dX8_readWord_33 : decode cX8_readWord 33 = .ok (.iadd, 1) := by decide +kernel
theorem dX8_readWord_34 : decode cX8_readWord 34 = .ok (.aload_n 0, 1) := by decide +kernel
theorem dX8_readWord_35 : decode cX8_readWord 35 = .ok (.invokevirtual 147, 3) := by decide +kernel
theorem dX8_readWord_38 : decode cX8_readWord 38 = .ok (.bipush 97, 2) := by decide +kernel
theorem dX8_readWord_40 : decode cX8_readWord 40 = .ok (.isub, 1) := by decide +kernel
theorem dX8_readWord_41 : decode cX8_readWord 41 = .ok (.iastore, 1) := by decide +kernel
theorem dX8_readWord_42 : decode cX8_readWord 42 = .ok (.iinc 2 1, 3) := by decide +kernel
theorem dX8_readWord_45 : decode cX8_readWord 45 = .ok (.aload_n 0, 1) := by decide +kernel
theorem dX8_readWord_46 : decode cX8_readWord 46 = .ok (.dup, 1) := by decide +kernel
theorem dX8_readWord_47 : decode cX8_readWord 47 = .ok (.getfield 144, 3) := by decide +kernel
theorem dX8_readWord_50 : decode cX8_readWord 50 = .ok (.iconst 1, 1) := by decide +kernel
theorem dX8_readWord_51 : decode cX8_readWord 51 = .ok (.iadd, 1) := by decide +kernel
theorem dX8_readWord_52 : decode cX8_readWord 52 = .ok (.putfield 144, 3) := by decide +kernel
theorem dX8_readWord_55 : decode cX8_readWord 55 = .ok (.goto (-53), 3) := by decide +kernel
theorem dX8_readWord_58 : decode cX8_readWord 58 = .ok (.aload_n 0, 1) := by decide +kernel
theorem dX8_readWord_59 : decode cX8_readWord 59 = .ok (.getfield 34, 3) := by decide +kernel
theorem dX8_readWord_62 : decode cX8_readWord 62 = .ok (.iload_n 1, 1) := by decide +kernel
theorem dX8_readWord_63 : decode cX8_readWord 63 = .ok (.iload_n 2, 1) := by decide +kernel
theorem dX8_readWord_64 : decode cX8_readWord 64 = .ok (.iastore, 1) := by decide +kernel
theorem dX8_readWord_65 : decode cX8_readWord 65 = .ok (.aload_n 0, 1) := by decide +kernel
theorem dX8_readWord_66 : decode cX8_readWord 66 = .ok (.getfield 34, 3) := by decide +kernel
theorem dX8_readWord_69 : decode cX8_readWord 69 = .ok (.iload_n 1, 1) := by decide +kernel
theorem dX8_readWord_70 : decode cX8_readWord 70 = .ok (.iconst 1, 1) := by decide +kernel
theorem dX8_readWord_71 : decode cX8_readWord 71 = .ok (.iadd, 1) := by decide +kernel
theorem dX8_readWord_72 : decode cX8_readWord 72 = .ok (.bipush 10, 2) := by decide +kernel
theorem dX8_readWord_74 : decode cX8_readWord 74 = .ok (.iastore, 1) := by decide +kernel
theorem dX8_readWord_75 : decode cX8_readWord 75 = .ok (.iload_n 2, 1) := by decide +kernel
theorem dX8_readWord_76 : decode cX8_readWord 76 = .ok (.ifCond .ne 5, 3) := by decide +kernel
theorem dX8_readWord_79 : decode cX8_readWord 79 = .ok (.iconst 0, 1) := by decide +kernel
theorem dX8_readWord_80 : decode cX8_readWord 80 = .ok (.ireturn, 1) := by decide +kernel
theorem dX8_readWord_81 : decode cX8_readWord 81 = .ok (.aload_n 0, 1) := by decide +kernel
theorem dX8_readWord_82 : decode cX8_readWord 82 = .ok (.invokevirtual 147, 3) := by decide +kernel
theorem dX8_readWord_85 : decode cX8_readWord 85 = .ok (.bipush 58, 2) := by decide +kernel
theorem dX8_readWord_87 : decode cX8_readWord 87 = .ok (.if_icmp .ne 28, 3) := by decide +kernel
theorem dX8_readWord_90 : decode cX8_readWord 90 = .ok (.aload_n 0, 1) := by decide +kernel
theorem dX8_readWord_91 : decode cX8_readWord 91 = .ok (.dup, 1) := by decide +kernel
theorem dX8_readWord_92 : decode cX8_readWord 92 = .ok (.getfield 144, 3) := by decide +kernel
theorem dX8_readWord_95 : decode cX8_readWord 95 = .ok (.iconst 1, 1) := by decide +kernel
theorem dX8_readWord_96 : decode cX8_readWord 96 = .ok (.iadd, 1) := by decide +kernel
theorem dX8_readWord_97 : decode cX8_readWord 97 = .ok (.putfield 144, 3) := by decide +kernel
theorem dX8_readWord_100 : decode cX8_readWord 100 = .ok (.aload_n 0, 1) := by decide +kernel
theorem dX8_readWord_101 : decode cX8_readWord 101 = .ok (.getfield 34, 3) := by decide +kernel
theorem dX8_readWord_104 : decode cX8_readWord 104 = .ok (.iload_n 1, 1) := by decide +kernel
theorem dX8_readWord_105 : decode cX8_readWord 105 = .ok (.iconst 1, 1) := by decide +kernel
theorem dX8_readWord_106 : decode cX8_readWord 106 = .ok (.iadd, 1) := by decide +kernel
theorem dX8_readWord_107 : decode cX8_readWord 107 = .ok (.aload_n 0, 1) := by decide +kernel
theorem dX8_readWord_108 : decode cX8_readWord 108 = .ok (.iconst 0, 1) := by decide +kernel
theorem dX8_readWord_109 : decode cX8_readWord 109 = .ok (.bipush 99, 2) := by decide +kernel
theorem dX8_readWord_111 : decode cX8_readWord 111 = .ok (.invokevirtual 164, 3) := by decide +kernel
theorem dX8_readWord_114 : decode cX8_readWord 114 = .ok (.iastore, 1) := by decide +kernel
theorem dX8_readWord_115 : decode cX8_readWord 115 = .ok (.aload_n 0, 1) := by decide +kernel
theorem dX8_readWord_116 : decode cX8_readWord 116 = .ok (.getfield 34, 3) := by decide +kernel
theorem dX8_readWord_119 : decode cX8_readWord 119 = .ok (.iload_n 1, 1) := by decide +kernel
theorem dX8_readWord_120 : decode cX8_readWord 120 = .ok (.iconst 1, 1) := by decide +kernel
theorem dX8_readWord_121 : decode cX8_readWord 121 = .ok (.iadd, 1) := by decide +kernel
theorem dX8_readWord_122 : decode cX8_readWord 122 = .ok (.iaload, 1) := by decide +kernel
theorem dX8_readWord_123 : decode cX8_readWord 123 = .ok (.ifCond .lt 7, 3) := by decide +kernel
theorem dX8_readWord_126 : decode cX8_readWord 126 = .ok (.iconst 1, 1) := by decide +kernel
theorem dX8_readWord_127 : decode cX8_readWord 127 = .ok (.goto 4, 3) := by decide +kernel
theorem dX8_readWord_130 : decode cX8_readWord 130 = .ok (.iconst 0, 1) := by decide +kernel
theorem dX8_readWord_131 : decode cX8_readWord 131 = .ok (.ireturn, 1) := by decide +kernel
theorem dX8_readWords_0 : decode cX8_readWords 0 = .ok (.aload_n 0, 1) := by decide +kernel
theorem dX8_readWords_1 : decode cX8_readWords 1 = .ok (.iconst 0, 1) := by decide +kernel
theorem dX8_readWords_2 : decode cX8_readWords 2 = .ok (.putfield 144, 3) := by decide +kernel
theorem dX8_readWords_5 : decode cX8_readWords 5 = .ok (.iconst 0, 1) := by decide +kernel
theorem dX8_readWords_6 : decode cX8_readWords 6 = .ok (.istore_n 1, 1) := by decide +kernel
theorem dX8_readWords_7 : decode cX8_readWords 7 = .ok (.iload_n 1, 1) := by decide +kernel
theorem dX8_readWords_8 : decode cX8_readWords 8 = .ok (.iconst 4, 1) := by decide +kernel
theorem dX8_readWords_9 : decode cX8_readWords 9 = .ok (.if_icmp .ge 63, 3) := by decide +kernel
theorem dX8_readWords_12 : decode cX8_readWords 12 = .ok (.aload_n 0, 1) := by decide +kernel
theorem dX8_readWords_13 : decode cX8_readWords 13 = .ok (.bipush 8, 2) := by decide +kernel
theorem dX8_readWords_15 : decode cX8_readWords 15 = .ok (.iload_n 1, 1) := by decide +kernel
theorem dX8_readWords_16 : decode cX8_readWords 16 = .ok (.imul, 1) := by decide +kernel
theorem dX8_readWords_17 : decode cX8_readWords 17 = .ok (.invokevirtual 167, 3) := by decide +kernel
theorem dX8_readWords_20 : decode cX8_readWords 20 = .ok (.ifCond .ne 5, 3) := by decide +kernel
theorem dX8_readWords_23 : decode cX8_readWords 23 = .ok (.iconst 0, 1) := by decide +kernel
theorem dX8_readWords_24 : decode cX8_readWords 24 = .ok (.ireturn, 1) := by decide +kernel
theorem dX8_readWords_25 : decode cX8_readWords 25 = .ok (.aload_n 0, 1) := by decide +kernel
theorem dX8_readWords_26 : decode cX8_readWords 26 = .ok (.iload_n 1, 1) := by decide +kernel
theorem dX8_readWords_27 : decode cX8_readWords 27 = .ok (.iconst 1, 1) := by decide +kernel
theorem dX8_readWords_28 : decode cX8_readWords 28 = .ok (.iadd, 1) := by decide +kernel
theorem dX8_readWords_29 : decode cX8_readWords 29 = .ok (.putfield 155, 3) := by decide +kernel
theorem dX8_readWords_32 : decode cX8_readWords 32 = .ok (.aload_n 0, 1) := by decide +kernel
theorem dX8_readWords_33 : decode cX8_readWords 33 = .ok (.invokevirtual 147, 3) := by decide +kernel
theorem dX8_readWords_36 : decode cX8_readWords 36 = .ok (.istore_n 2, 1) := by decide +kernel
theorem dX8_readWords_37 : decode cX8_readWords 37 = .ok (.iload_n 2, 1) := by decide +kernel
theorem dX8_readWords_38 : decode cX8_readWords 38 = .ok (.ifCond .ge 5, 3) := by decide +kernel
theorem dX8_readWords_41 : decode cX8_readWords 41 = .ok (.iconst 1, 1) := by decide +kernel
theorem dX8_readWords_42 : decode cX8_readWords 42 = .ok (.ireturn, 1) := by decide +kernel
theorem dX8_readWords_43 : decode cX8_readWords 43 = .ok (.iload_n 2, 1) := by decide +kernel
theorem dX8_readWords_44 : decode cX8_readWords 44 = .ok (.bipush 44, 2) := by decide +kernel
theorem dX8_readWords_46 : decode cX8_readWords 46 = .ok (.if_icmp .ne 8, 3) := by decide +kernel
theorem dX8_readWords_49 : decode cX8_readWords 49 = .ok (.iload_n 1, 1) := by decide +kernel
theorem dX8_readWords_50 : decode cX8_readWords 50 = .ok (.iconst 3, 1) := by decide +kernel
theorem dX8_readWords_51 : decode cX8_readWords 51 = .ok (.if_icmp .ne 5, 3) := by decide +kernel
theorem dX8_readWords_54 : decode cX8_readWords 54 = .ok (.iconst 0, 1) := by decide +kernel
theorem dX8_readWords_55 : decode cX8_readWords 55 = .ok (.ireturn, 1) := by decide +kernel
theorem dX8_readWords_56 : decode cX8_readWords 56 = .ok (.aload_n 0, 1) := by decide +kernel
theorem dX8_readWords_57 : decode cX8_readWords 57 = .ok (.dup, 1) := by decide +kernel
theorem dX8_readWords_58 : decode cX8_readWords 58 = .ok (.getfield 144, 3) := by decide +kernel
theorem dX8_readWords_61 : decode cX8_readWords 61 = .ok (.iconst 1, 1) := by decide +kernel
theorem dX8_readWords_62 : decode cX8_readWords 62 = .ok (.iadd, 1) := by decide +kernel
theorem dX8_readWords_63 : decode cX8_readWords 63 = .ok (.putfield 144, 3) := by decide +kernel
theorem dX8_readWords_66 : decode cX8_readWords 66 = .ok (.iinc 1 1, 3) := by decide +kernel
theorem dX8_readWords_69 : decode cX8_readWords 69 = .ok (.goto (-62), 3) := by decide +kernel
theorem dX8_readWords_72 : decode cX8_readWords 72 = .ok (.iconst 0, 1) := by decide +kernel
theorem dX8_readWords_73 : decode cX8_readWords 73 = .ok (.ireturn, 1) := by decide +kernel
theorem dX8_words_0 : decode cX8_words 0 = .ok (.aload_n 0, 1) := by decide +kernel
theorem dX8_words_1 : decode cX8_words 1 = .ok (.invokevirtual 170, 3) := by decide +kernel
theorem dX8_words_4 : decode cX8_words 4 = .ok (.istore_n 1, 1) := by decide +kernel
theorem dX8_words_5 : decode cX8_words 5 = .ok (.aload_n 0, 1) := by decide +kernel
theorem dX8_words_6 : decode cX8_words 6 = .ok (.iconst 0, 1) := by decide +kernel
theorem dX8_words_7 : decode cX8_words 7 = .ok (.putfield 141, 3) := by decide +kernel
theorem dX8_words_10 : decode cX8_words 10 = .ok (.iload_n 1, 1) := by decide +kernel
theorem dX8_words_11 : decode cX8_words 11 = .ok (.ifCond .ne 11, 3) := by decide +kernel
theorem dX8_words_14 : decode cX8_words 14 = .ok (.bipush (-20), 2) := by decide +kernel
theorem dX8_words_16 : decode cX8_words 16 = .ok (.aload_n 0, 1) := by decide +kernel
theorem dX8_words_17 : decode cX8_words 17 = .ok (.getfield 144, 3) := by decide +kernel
theorem dX8_words_20 : decode cX8_words 20 = .ok (.isub, 1) := by decide +kernel
theorem dX8_words_21 : decode cX8_words 21 = .ok (.ireturn, 1) := by decide +kernel
theorem dX8_words_22 : decode cX8_words 22 = .ok (.aload_n 0, 1) := by decide +kernel
theorem dX8_words_23 : decode cX8_words 23 = .ok (.getfield 83, 3) := by decide +kernel
theorem dX8_words_26 : decode cX8_words 26 = .ok (.aload_n 0, 1) := by decide +kernel
theorem dX8_words_27 : decode cX8_words 27 = .ok (.getfield 155, 3) := by decide +kernel
theorem dX8_words_30 : decode cX8_words 30 = .ok (.iadd, 1) := by decide +kernel
theorem dX8_words_31 : decode cX8_words 31 = .ok (.bipush 10, 2) := by decide +kernel
theorem dX8_words_33 : decode cX8_words 33 = .ok (.if_icmp .le 6, 3) := by decide +kernel
theorem dX8_words_36 : decode cX8_words 36 = .ok (.bipush (-3), 2) := by decide +kernel
theorem dX8_words_38 : decode cX8_words 38 = .ok (.ireturn, 1) := by decide +kernel
theorem dX8_words_39 : decode cX8_words 39 = .ok (.iconst 0, 1) := by decide +kernel
theorem dX8_words_40 : decode cX8_words 40 = .ok (.istore_n 2, 1) := by decide +kernel
theorem dX8_words_41 : decode cX8_words 41 = .ok (.iload_n 2, 1) := by decide +kernel
theorem dX8_words_42 : decode cX8_words 42 = .ok (.bipush 8, 2) := by decide +kernel
theorem dX8_words_44 : decode cX8_words 44 = .ok (.aload_n 0, 1) := by decide +kernel
theorem dX8_words_45 : decode cX8_words 45 = .ok (.getfield 155, 3) := by decide +kernel
theorem dX8_words_48 : decode cX8_words 48 = .ok (.imul, 1) := by decide +kernel
theorem dX8_words_49 : decode cX8_words 49 = .ok (.if_icmp .ge 29, 3) := by decide +kernel
theorem dX8_words_52 : decode cX8_words 52 = .ok (.aload_n 0, 1) := by decide +kernel
theorem dX8_words_53 : decode cX8_words 53 = .ok (.getfield 28, 3) := by decide +kernel
theorem dX8_words_56 : decode cX8_words 56 = .ok (.bipush 8, 2) := by decide +kernel
theorem dX8_words_58 : decode cX8_words 58 = .ok (.aload_n 0, 1) := by decide +kernel
theorem dX8_words_59 : decode cX8_words 59 = .ok (.getfield 83, 3) := by decide +kernel
theorem dX8_words_62 : decode cX8_words 62 = .ok (.imul, 1) := by decide +kernel
theorem dX8_words_63 : decode cX8_words 63 = .ok (.iload_n 2, 1) := by decide +kernel
theorem dX8_words_64 : decode cX8_words 64 = .ok (.iadd, 1) := by decide +kernel
theorem dX8_words_65 : decode cX8_words 65 = .ok (.aload_n 0, 1) := by decide +kernel
theorem dX8_words_66 : decode cX8_words 66 = .ok (.getfield 34, 3) := by decide +kernel
theorem dX8_words_69 : decode cX8_words 69 = .ok (.iload_n 2, 1) := by decide +kernel
theorem dX8_words_70 : decode cX8_words 70 = .ok (.iaload, 1) := by decide +kernel
theorem dX8_words_71 : decode cX8_words 71 = .ok (.iastore, 1) := by decide +kernel
theorem dX8_words_72 : decode cX8_words 72 = .ok (.iinc 2 1, 3) := by decide +kernel
theorem dX8_words_75 : decode cX8_words 75 = .ok (.goto (-34), 3) := by decide +kernel
theorem dX8_words_78 : decode cX8_words 78 = .ok (.aload_n 0, 1) := by decide +kernel
theorem dX8_words_79 : decode cX8_words 79 = .ok (.dup, 1) := by decide +kernel
theorem dX8_words_80 : decode cX8_words 80 = .ok (.getfield 83, 3) := by decide +kernel
theorem dX8_words_83 : decode cX8_words 83 = .ok (.aload_n 0, 1) := by decide +kernel
theorem dX8_words_84 : decode cX8_words 84 = .ok (.getfield 155, 3) := by decide +kernel
theorem dX8_words_87 : decode cX8_words 87 = .ok (.iadd, 1) := by decide +kernel
theorem dX8_words_88 : decode cX8_words 88 = .ok (.putfield 83, 3) := by decide +kernel
theorem dX8_words_91 : decode cX8_words 91 = .ok (.aload_n 0, 1) := by decide +kernel
theorem dX8_words_92 : decode cX8_words 92 = .ok (.getfield 155, 3) := by decide +kernel
theorem dX8_words_95 : decode cX8_words 95 = .ok (.ireturn, 1) := by decide +kernel
theorem dX8_told_0 : decode cX8_told 0 = .ok (.aload_n 0, 1) := by decide +kernel
theorem dX8_told_1 : decode cX8_told 1 = .ok (.iload_n 1, 1) := by decide +kernel
theorem dX8_told_2 : decode cX8_told 2 = .ok (.invokevirtual 174, 3) := by decide +kernel
theorem dX8_told_5 : decode cX8_told 5 = .ok (.ifCond .eq 9, 3) := by decide +kernel
theorem dX8_told_8 : decode cX8_told 8 = .ok (.iload_n 2, 1) := by decide +kernel
theorem dX8_told_9 : decode cX8_told 9 = .ok (.bipush (-2), 2) := by decide +kernel
theorem dX8_told_11 : decode cX8_told 11 = .ok (.if_icmp .ge 5, 3) := by decide +kernel
theorem dX8_told_14 : decode cX8_told 14 = .ok (.iconst (-1), 1) := by decide +kernel
theorem dX8_told_15 : decode cX8_told 15 = .ok (.ireturn, 1) := by decide +kernel
theorem dX8_told_16 : decode cX8_told 16 = .ok (.aload_n 0, 1) := by decide +kernel
theorem dX8_told_17 : decode cX8_told 17 = .ok (.getfield 28, 3) := by decide +kernel
theorem dX8_told_20 : decode cX8_told 20 = .ok (.bipush 8, 2) := by decide +kernel
theorem dX8_told_22 : decode cX8_told 22 = .ok (.iload_n 1, 1) := by decide +kernel
theorem dX8_told_23 : decode cX8_told 23 = .ok (.imul, 1) := by decide +kernel
theorem dX8_told_24 : decode cX8_told 24 = .ok (.iaload, 1) := by decide +kernel
theorem dX8_told_25 : decode cX8_told 25 = .ok (.istore_n 3, 1) := by decide +kernel
theorem dX8_told_26 : decode cX8_told 26 = .ok (.iload_n 2, 1) := by decide +kernel
theorem dX8_told_27 : decode cX8_told 27 = .ok (.iconst (-1), 1) := by decide +kernel
theorem dX8_told_28 : decode cX8_told 28 = .ok (.if_icmp .ne 7, 3) := by decide +kernel
theorem dX8_told_31 : decode cX8_told 31 = .ok (.iload_n 3, 1) := by decide +kernel
theorem dX8_told_32 : decode cX8_told 32 = .ok (.goto 46, 3) := by decide +kernel
theorem dX8_told_35 : decode cX8_told 35 = .ok (.iload_n 2, 1) := by decide +kernel
theorem dX8_told_36 : decode cX8_told 36 = .ok (.bipush (-2), 2) := by decide +kernel
theorem dX8_told_38 : decode cX8_told 38 = .ok (.if_icmp .ne 17, 3) := by decide +kernel
theorem dX8_told_41 : decode cX8_told 41 = .ok (.aload_n 0, 1) := by decide +kernel
theorem dX8_told_42 : decode cX8_told 42 = .ok (.getfield 28, 3) := by decide +kernel
theorem dX8_told_45 : decode cX8_told 45 = .ok (.bipush 8, 2) := by decide +kernel
theorem dX8_told_47 : decode cX8_told 47 = .ok (.iload_n 1, 1) := by decide +kernel
theorem dX8_told_48 : decode cX8_told 48 = .ok (.imul, 1) := by decide +kernel
theorem dX8_told_49 : decode cX8_told 49 = .ok (.iconst 1, 1) := by decide +kernel
theorem dX8_told_50 : decode cX8_told 50 = .ok (.iadd, 1) := by decide +kernel
theorem dX8_told_51 : decode cX8_told 51 = .ok (.iaload, 1) := by decide +kernel
theorem dX8_told_52 : decode cX8_told 52 = .ok (.goto 26, 3) := by decide +kernel
theorem dX8_told_55 : decode cX8_told 55 = .ok (.iload_n 2, 1) := by decide +kernel
theorem dX8_told_56 : decode cX8_told 56 = .ok (.iload_n 3, 1) := by decide +kernel
theorem dX8_told_57 : decode cX8_told 57 = .ok (.if_icmp .ge 19, 3) := by decide +kernel
theorem dX8_told_60 : decode cX8_told 60 = .ok (.aload_n 0, 1) := by decide +kernel
theorem dX8_told_61 : decode cX8_told 61 = .ok (.getfield 28, 3) := by decide +kernel
theorem dX8_told_64 : decode cX8_told 64 = .ok (.bipush 8, 2) := by decide +kernel
theorem dX8_told_66 : decode cX8_told 66 = .ok (.iload_n 1, 1) := by decide +kernel
theorem dX8_told_67 : decode cX8_told 67 = .ok (.imul, 1) := by decide +kernel
theorem dX8_told_68 : decode cX8_told 68 = .ok (.iconst 2, 1) := by decide +kernel
theorem dX8_told_69 : decode cX8_told 69 = .ok (.iadd, 1) := by decide +kernel
theorem dX8_told_70 : decode cX8_told 70 = .ok (.iload_n 2, 1) := by decide +kernel
theorem dX8_told_71 : decode cX8_told 71 = .ok (.iadd, 1) := by decide +kernel
theorem dX8_told_72 : decode cX8_told 72 = .ok (.iaload, 1) := by decide +kernel
theorem dX8_told_73 : decode cX8_told 73 = .ok (.goto 5, 3) := by decide +kernel
theorem dX8_told_76 : decode cX8_told 76 = .ok (.bipush (-4), 2) := by decide +kernel
theorem dX8_told_78 : decode cX8_told 78 = .ok (.ireturn, 1) := by decide +kernel
theorem dX8_pay_0 : decode cX8_pay 0 = .ok (.aload_n 0, 1) := by decide +kernel
theorem dX8_pay_1 : decode cX8_pay 1 = .ok (.iload_n 1, 1) := by decide +kernel
theorem dX8_pay_2 : decode cX8_pay 2 = .ok (.invokevirtual 174, 3) := by decide +kernel
theorem dX8_pay_5 : decode cX8_pay 5 = .ok (.ifCond .eq 15, 3) := by decide +kernel
theorem dX8_pay_8 : decode cX8_pay 8 = .ok (.iload_n 2, 1) := by decide +kernel
theorem dX8_pay_9 : decode cX8_pay 9 = .ok (.i2l, 1) := by decide +kernel
theorem dX8_pay_10 : decode cX8_pay 10 = .ok (.lconst 0, 1) := by decide +kernel
theorem dX8_pay_11 : decode cX8_pay 11 = .ok (.ldc2_w 177, 3) := by decide +kernel
theorem dX8_pay_14 : decode cX8_pay 14 = .ok (.invokestatic 75, 3) := by decide +kernel
theorem dX8_pay_17 : decode cX8_pay 17 = .ok (.ifCond .ne 5, 3) := by decide +kernel
theorem dX8_pay_20 : decode cX8_pay 20 = .ok (.iconst (-1), 1) := by decide +kernel
theorem dX8_pay_21 : decode cX8_pay 21 = .ok (.ireturn, 1) := by decide +kernel
theorem dX8_pay_22 : decode cX8_pay 22 = .ok (.aload_n 0, 1) := by decide +kernel
theorem dX8_pay_23 : decode cX8_pay 23 = .ok (.getfield 28, 3) := by decide +kernel
theorem dX8_pay_26 : decode cX8_pay 26 = .ok (.bipush 8, 2) := by decide +kernel
theorem dX8_pay_28 : decode cX8_pay 28 = .ok (.iload_n 1, 1) := by decide +kernel
theorem dX8_pay_29 : decode cX8_pay 29 = .ok (.imul, 1) := by decide +kernel
theorem dX8_pay_30 : decode cX8_pay 30 = .ok (.iconst 1, 1) := by decide +kernel
theorem dX8_pay_31 : decode cX8_pay 31 = .ok (.iadd, 1) := by decide +kernel
theorem dX8_pay_32 : decode cX8_pay 32 = .ok (.iaload, 1) := by decide +kernel
theorem dX8_pay_33 : decode cX8_pay 33 = .ok (.istore_n 3, 1) := by decide +kernel
theorem dX8_pay_34 : decode cX8_pay 34 = .ok (.aload_n 0, 1) := by decide +kernel
theorem dX8_pay_35 : decode cX8_pay 35 = .ok (.getfield 28, 3) := by decide +kernel
theorem dX8_pay_38 : decode cX8_pay 38 = .ok (.bipush 8, 2) := by decide +kernel
theorem dX8_pay_40 : decode cX8_pay 40 = .ok (.iload_n 1, 1) := by decide +kernel
theorem dX8_pay_41 : decode cX8_pay 41 = .ok (.imul, 1) := by decide +kernel
theorem dX8_pay_42 : decode cX8_pay 42 = .ok (.iconst 1, 1) := by decide +kernel
theorem dX8_pay_43 : decode cX8_pay 43 = .ok (.iadd, 1) := by decide +kernel
theorem dX8_pay_44 : decode cX8_pay 44 = .ok (.iload_n 2, 1) := by decide +kernel
theorem dX8_pay_45 : decode cX8_pay 45 = .ok (.iastore, 1) := by decide +kernel
theorem dX8_pay_46 : decode cX8_pay 46 = .ok (.iload_n 3, 1) := by decide +kernel
theorem dX8_pay_47 : decode cX8_pay 47 = .ok (.ireturn, 1) := by decide +kernel
theorem dX8_feud_0 : decode cX8_feud 0 = .ok (.iload_n 1, 1) := by decide +kernel
theorem dX8_feud_1 : decode cX8_feud 1 = .ok (.i2l, 1) := by decide +kernel
theorem dX8_feud_2 : decode cX8_feud 2 = .ok (.lconst 0, 1) := by decide +kernel
theorem dX8_feud_3 : decode cX8_feud 3 = .ok (.ldc2_w 86, 3) := by decide +kernel
theorem dX8_feud_6 : decode cX8_feud 6 = .ok (.invokestatic 75, 3) := by decide +kernel
theorem dX8_feud_9 : decode cX8_feud 9 = .ok (.ifCond .eq 20, 3) := by decide +kernel
theorem dX8_feud_12 : decode cX8_feud 12 = .ok (.iload_n 2, 1) := by decide +kernel
theorem dX8_feud_13 : decode cX8_feud 13 = .ok (.i2l, 1) := by decide +kernel
theorem dX8_feud_14 : decode cX8_feud 14 = .ok (.lconst 0, 1) := by decide +kernel
theorem dX8_feud_15 : decode cX8_feud 15 = .ok (.ldc2_w 86, 3) := by decide +kernel
theorem dX8_feud_18 : decode cX8_feud 18 = .ok (.invokestatic 75, 3) := by decide +kernel
theorem dX8_feud_21 : decode cX8_feud 21 = .ok (.ifCond .eq 8, 3) := by decide +kernel
theorem dX8_feud_24 : decode cX8_feud 24 = .ok (.iload_n 1, 1) := by decide +kernel
theorem dX8_feud_25 : decode cX8_feud 25 = .ok (.iload_n 2, 1) := by decide +kernel
theorem dX8_feud_26 : decode cX8_feud 26 = .ok (.if_icmp .ne 5, 3) := by decide +kernel
theorem dX8_feud_29 : decode cX8_feud 29 = .ok (.iconst (-1), 1) := by decide +kernel
theorem dX8_feud_30 : decode cX8_feud 30 = .ok (.ireturn, 1) := by decide +kernel
theorem dX8_feud_31 : decode cX8_feud 31 = .ok (.aload_n 0, 1) := by decide +kernel
theorem dX8_feud_32 : decode cX8_feud 32 = .ok (.getfield 25, 3) := by decide +kernel
theorem dX8_feud_35 : decode cX8_feud 35 = .ok (.bipush 6, 2) := by decide +kernel
theorem dX8_feud_37 : decode cX8_feud 37 = .ok (.iload_n 1, 1) := by decide +kernel
theorem dX8_feud_38 : decode cX8_feud 38 = .ok (.imul, 1) := by decide +kernel
theorem dX8_feud_39 : decode cX8_feud 39 = .ok (.iload_n 2, 1) := by decide +kernel
theorem dX8_feud_40 : decode cX8_feud 40 = .ok (.iadd, 1) := by decide +kernel
theorem dX8_feud_41 : decode cX8_feud 41 = .ok (.iaload, 1) := by decide +kernel
theorem dX8_feud_42 : decode cX8_feud 42 = .ok (.istore 4, 2) := by decide +kernel
theorem dX8_feud_44 : decode cX8_feud 44 = .ok (.aload_n 0, 1) := by decide +kernel
theorem dX8_feud_45 : decode cX8_feud 45 = .ok (.getfield 25, 3) := by decide +kernel
theorem dX8_feud_48 : decode cX8_feud 48 = .ok (.bipush 6, 2) := by decide +kernel
theorem dX8_feud_50 : decode cX8_feud 50 = .ok (.iload_n 1, 1) := by decide +kernel
theorem dX8_feud_51 : decode cX8_feud 51 = .ok (.imul, 1) := by decide +kernel
theorem dX8_feud_52 : decode cX8_feud 52 = .ok (.iload_n 2, 1) := by decide +kernel
theorem dX8_feud_53 : decode cX8_feud 53 = .ok (.iadd, 1) := by decide +kernel
theorem dX8_feud_54 : decode cX8_feud 54 = .ok (.iload_n 3, 1) := by decide +kernel
theorem dX8_feud_55 : decode cX8_feud 55 = .ok (.ifCond .eq 7, 3) := by decide +kernel
theorem dX8_feud_58 : decode cX8_feud 58 = .ok (.iconst 1, 1) := by decide +kernel
theorem dX8_feud_59 : decode cX8_feud 59 = .ok (.goto 4, 3) := by decide +kernel
theorem dX8_feud_62 : decode cX8_feud 62 = .ok (.iconst 0, 1) := by decide +kernel
theorem dX8_feud_63 : decode cX8_feud 63 = .ok (.iastore, 1) := by decide +kernel
theorem dX8_feud_64 : decode cX8_feud 64 = .ok (.aload_n 0, 1) := by decide +kernel
theorem dX8_feud_65 : decode cX8_feud 65 = .ok (.getfield 25, 3) := by decide +kernel
theorem dX8_feud_68 : decode cX8_feud 68 = .ok (.bipush 6, 2) := by decide +kernel
theorem dX8_feud_70 : decode cX8_feud 70 = .ok (.iload_n 2, 1) := by decide +kernel
theorem dX8_feud_71 : decode cX8_feud 71 = .ok (.imul, 1) := by decide +kernel
theorem dX8_feud_72 : decode cX8_feud 72 = .ok (.iload_n 1, 1) := by decide +kernel
theorem dX8_feud_73 : decode cX8_feud 73 = .ok (.iadd, 1) := by decide +kernel
theorem dX8_feud_74 : decode cX8_feud 74 = .ok (.iload_n 3, 1) := by decide +kernel
theorem dX8_feud_75 : decode cX8_feud 75 = .ok (.ifCond .eq 7, 3) := by decide +kernel
theorem dX8_feud_78 : decode cX8_feud 78 = .ok (.iconst 1, 1) := by decide +kernel
theorem dX8_feud_79 : decode cX8_feud 79 = .ok (.goto 4, 3) := by decide +kernel
theorem dX8_feud_82 : decode cX8_feud 82 = .ok (.iconst 0, 1) := by decide +kernel
theorem dX8_feud_83 : decode cX8_feud 83 = .ok (.iastore, 1) := by decide +kernel
theorem dX8_feud_84 : decode cX8_feud 84 = .ok (.iload 4, 2) := by decide +kernel
theorem dX8_feud_86 : decode cX8_feud 86 = .ok (.ireturn, 1) := by decide +kernel
theorem dX8_count_0 : decode cX8_count 0 = .ok (.iconst 0, 1) := by decide +kernel
theorem dX8_count_1 : decode cX8_count 1 = .ok (.istore_n 2, 1) := by decide +kernel
theorem dX8_count_2 : decode cX8_count 2 = .ok (.iconst 0, 1) := by decide +kernel
theorem dX8_count_3 : decode cX8_count 3 = .ok (.istore_n 3, 1) := by decide +kernel
theorem dX8_count_4 : decode cX8_count 4 = .ok (.iload_n 3, 1) := by decide +kernel
theorem dX8_count_5 : decode cX8_count 5 = .ok (.bipush 36, 2) := by decide +kernel
theorem dX8_count_7 : decode cX8_count 7 = .ok (.if_icmp .ge 18, 3) := by decide +kernel
theorem dX8_count_10 : decode cX8_count 10 = .ok (.iload_n 2, 1) := by decide +kernel
theorem dX8_count_11 : decode cX8_count 11 = .ok (.aload_n 0, 1) := by decide +kernel
theorem dX8_count_12 : decode cX8_count 12 = .ok (.getfield 25, 3) := by decide +kernel
theorem dX8_count_15 : decode cX8_count 15 = .ok (.iload_n 3, 1) := by decide +kernel
theorem dX8_count_16 : decode cX8_count 16 = .ok (.iaload, 1) := by decide +kernel
theorem dX8_count_17 : decode cX8_count 17 = .ok (.iadd, 1) := by decide +kernel
theorem dX8_count_18 : decode cX8_count 18 = .ok (.istore_n 2, 1) := by decide +kernel
theorem dX8_count_19 : decode cX8_count 19 = .ok (.iinc 3 1, 3) := by decide +kernel
theorem dX8_count_22 : decode cX8_count 22 = .ok (.goto (-18), 3) := by decide +kernel
theorem dX8_count_25 : decode cX8_count 25 = .ok (.iconst 0, 1) := by decide +kernel
theorem dX8_count_26 : decode cX8_count 26 = .ok (.istore_n 3, 1) := by decide +kernel
theorem dX8_count_27 : decode cX8_count 27 = .ok (.iconst 0, 1) := by decide +kernel
theorem dX8_count_28 : decode cX8_count 28 = .ok (.istore 4, 2) := by decide +kernel
theorem dX8_count_30 : decode cX8_count 30 = .ok (.iload 4, 2) := by decide +kernel
theorem dX8_count_32 : decode cX8_count 32 = .ok (.bipush 6, 2) := by decide +kernel
theorem dX8_count_34 : decode cX8_count 34 = .ok (.if_icmp .ge 19, 3) := by decide +kernel
theorem dX8_count_37 : decode cX8_count 37 = .ok (.iload_n 3, 1) := by decide +kernel
theorem dX8_count_38 : decode cX8_count 38 = .ok (.aload_n 0, 1) := by decide +kernel
theorem dX8_count_39 : decode cX8_count 39 = .ok (.getfield 19, 3) := by decide +kernel
theorem dX8_count_42 : decode cX8_count 42 = .ok (.iload 4, 2) := by decide +kernel
theorem dX8_count_44 : decode cX8_count 44 = .ok (.iaload, 1) := by decide +kernel
theorem dX8_count_45 : decode cX8_count 45 = .ok (.iadd, 1) := by decide +kernel
theorem dX8_count_46 : decode cX8_count 46 = .ok (.istore_n 3, 1) := by decide +kernel
theorem dX8_count_47 : decode cX8_count 47 = .ok (.iinc 4 1, 3) := by decide +kernel
theorem dX8_count_50 : decode cX8_count 50 = .ok (.goto (-20), 3) := by decide +kernel
theorem dX8_count_53 : decode cX8_count 53 = .ok (.iload_n 1, 1) := by decide +kernel
theorem dX8_count_54 : decode cX8_count 54 = .ok (.ifCond .ne 10, 3) := by decide +kernel
theorem dX8_count_57 : decode cX8_count 57 = .ok (.aload_n 0, 1) := by decide +kernel
theorem dX8_count_58 : decode cX8_count 58 = .ok (.getfield 71, 3) := by decide +kernel
theorem dX8_count_61 : decode cX8_count 61 = .ok (.goto 36, 3) := by decide +kernel
theorem dX8_count_64 : decode cX8_count 64 = .ok (.iload_n 1, 1) := by decide +kernel
theorem dX8_count_65 : decode cX8_count 65 = .ok (.iconst 1, 1) := by decide +kernel
theorem dX8_count_66 : decode cX8_count 66 = .ok (.if_icmp .ne 10, 3) := by decide +kernel
theorem dX8_count_69 : decode cX8_count 69 = .ok (.aload_n 0, 1) := by decide +kernel
theorem dX8_count_70 : decode cX8_count 70 = .ok (.getfield 83, 3) := by decide +kernel
theorem dX8_count_73 : decode cX8_count 73 = .ok (.goto 24, 3) := by decide +kernel
theorem dX8_count_76 : decode cX8_count 76 = .ok (.iload_n 1, 1) := by decide +kernel
theorem dX8_count_77 : decode cX8_count 77 = .ok (.iconst 2, 1) := by decide +kernel
theorem dX8_count_78 : decode cX8_count 78 = .ok (.if_icmp .ne 9, 3) := by decide +kernel
theorem dX8_count_81 : decode cX8_count 81 = .ok (.iload_n 2, 1) := by decide +kernel
theorem dX8_count_82 : decode cX8_count 82 = .ok (.iconst 2, 1) := by decide +kernel
theorem dX8_count_83 : decode cX8_count 83 = .ok (.idiv, 1) := by decide +kernel
theorem dX8_count_84 : decode cX8_count 84 = .ok (.goto 13, 3) := by decide +kernel
theorem dX8_count_87 : decode cX8_count 87 = .ok (.iload_n 1, 1) := by decide +kernel
theorem dX8_count_88 : decode cX8_count 88 = .ok (.iconst 3, 1) := by decide +kernel
theorem dX8_count_89 : decode cX8_count 89 = .ok (.if_icmp .ne 7, 3) := by decide +kernel
theorem dX8_count_92 : decode cX8_count 92 = .ok (.iload_n 3, 1) := by decide +kernel
theorem dX8_count_93 : decode cX8_count 93 = .ok (.goto 4, 3) := by decide +kernel
theorem dX8_count_96 : decode cX8_count 96 = .ok (.iconst (-1), 1) := by decide +kernel
theorem dX8_count_97 : decode cX8_count 97 = .ok (.ireturn, 1) := by decide +kernel
theorem dX8_sizeOf_0 : decode cX8_sizeOf 0 = .ok (.aload_n 0, 1) := by decide +kernel
theorem dX8_sizeOf_1 : decode cX8_sizeOf 1 = .ok (.getfield 28, 3) := by decide +kernel
theorem dX8_sizeOf_4 : decode cX8_sizeOf 4 = .ok (.bipush 8, 2) := by decide +kernel
theorem dX8_sizeOf_6 : decode cX8_sizeOf 6 = .ok (.iload_n 1, 1) := by decide +kernel
theorem dX8_sizeOf_7 : decode cX8_sizeOf 7 = .ok (.imul, 1) := by decide +kernel
theorem dX8_sizeOf_8 : decode cX8_sizeOf 8 = .ok (.iaload, 1) := by decide +kernel
theorem dX8_sizeOf_9 : decode cX8_sizeOf 9 = .ok (.ireturn, 1) := by decide +kernel
theorem dX8_letterOf_0 : decode cX8_letterOf 0 = .ok (.aload_n 0, 1) := by decide +kernel
theorem dX8_letterOf_1 : decode cX8_letterOf 1 = .ok (.getfield 28, 3) := by decide +kernel
theorem dX8_letterOf_4 : decode cX8_letterOf 4 = .ok (.bipush 8, 2) := by decide +kernel
theorem dX8_letterOf_6 : decode cX8_letterOf 6 = .ok (.iload_n 1, 1) := by decide +kernel
theorem dX8_letterOf_7 : decode cX8_letterOf 7 = .ok (.imul, 1) := by decide +kernel
theorem dX8_letterOf_8 : decode cX8_letterOf 8 = .ok (.iconst 2, 1) := by decide +kernel
theorem dX8_letterOf_9 : decode cX8_letterOf 9 = .ok (.iadd, 1) := by decide +kernel
theorem dX8_letterOf_10 : decode cX8_letterOf 10 = .ok (.iload_n 2, 1) := by decide +kernel
theorem dX8_letterOf_11 : decode cX8_letterOf 11 = .ok (.iadd, 1) := by decide +kernel
theorem dX8_letterOf_12 : decode cX8_letterOf 12 = .ok (.iaload, 1) := by decide +kernel
theorem dX8_letterOf_13 : decode cX8_letterOf 13 = .ok (.ireturn, 1) := by decide +kernel
theorem dX8_hasRoom_0 : decode cX8_hasRoom 0 = .ok (.iload_n 2, 1) := by decide +kernel
theorem dX8_hasRoom_1 : decode cX8_hasRoom 1 = .ok (.aload_n 0, 1) := by decide +kernel
theorem dX8_hasRoom_2 : decode cX8_hasRoom 2 = .ok (.iload_n 1, 1) := by decide +kernel
theorem dX8_hasRoom_3 : decode cX8_hasRoom 3 = .ok (.invokevirtual 179, 3) := by decide +kernel
theorem dX8_hasRoom_6 : decode cX8_hasRoom 6 = .ok (.iadd, 1) := by decide +kernel
theorem dX8_hasRoom_7 : decode cX8_hasRoom 7 = .ok (.aload_n 0, 1) := by decide +kernel
theorem dX8_hasRoom_8 : decode cX8_hasRoom 8 = .ok (.getfield 71, 3) := by decide +kernel
theorem dX8_hasRoom_11 : decode cX8_hasRoom 11 = .ok (.if_icmp .gt 7, 3) := by decide +kernel
theorem dX8_hasRoom_14 : decode cX8_hasRoom 14 = .ok (.iconst 1, 1) := by decide +kernel
theorem dX8_hasRoom_15 : decode cX8_hasRoom 15 = .ok (.goto 4, 3) := by decide +kernel
theorem dX8_hasRoom_18 : decode cX8_hasRoom 18 = .ok (.iconst 0, 1) := by decide +kernel
theorem dX8_hasRoom_19 : decode cX8_hasRoom 19 = .ok (.ireturn, 1) := by decide +kernel
theorem dX8_isWritten_0 : decode cX8_isWritten 0 = .ok (.aload_n 0, 1) := by decide +kernel
theorem dX8_isWritten_1 : decode cX8_isWritten 1 = .ok (.iload_n 1, 1) := by decide +kernel
theorem dX8_isWritten_2 : decode cX8_isWritten 2 = .ok (.iload_n 2, 1) := by decide +kernel
theorem dX8_isWritten_3 : decode cX8_isWritten 3 = .ok (.invokevirtual 182, 3) := by decide +kernel
theorem dX8_isWritten_6 : decode cX8_isWritten 6 = .ok (.istore_n 3, 1) := by decide +kernel
theorem dX8_isWritten_7 : decode cX8_isWritten 7 = .ok (.iconst 0, 1) := by decide +kernel
theorem dX8_isWritten_8 : decode cX8_isWritten 8 = .ok (.istore 4, 2) := by decide +kernel
theorem dX8_isWritten_10 : decode cX8_isWritten 10 = .ok (.iload 4, 2) := by decide +kernel
theorem dX8_isWritten_12 : decode cX8_isWritten 12 = .ok (.aload_n 0, 1) := by decide +kernel
theorem dX8_isWritten_13 : decode cX8_isWritten 13 = .ok (.iload_n 1, 1) := by decide +kernel
theorem dX8_isWritten_14 : decode cX8_isWritten 14 = .ok (.invokevirtual 179, 3) := by decide +kernel
theorem dX8_isWritten_17 : decode cX8_isWritten 17 = .ok (.if_icmp .ge 41, 3) := by decide +kernel
theorem dX8_isWritten_20 : decode cX8_isWritten 20 = .ok (.iload_n 3, 1) := by decide +kernel
theorem dX8_isWritten_21 : decode cX8_isWritten 21 = .ok (.ifCond .eq 37, 3) := by decide +kernel
theorem dX8_isWritten_24 : decode cX8_isWritten 24 = .ok (.aload_n 0, 1) := by decide +kernel
theorem dX8_isWritten_25 : decode cX8_isWritten 25 = .ok (.aload_n 0, 1) := by decide +kernel
theorem dX8_isWritten_26 : decode cX8_isWritten 26 = .ok (.iload_n 2, 1) := by decide +kernel
theorem dX8_isWritten_27 : decode cX8_isWritten 27 = .ok (.iload 4, 2) := by decide +kernel
theorem dX8_isWritten_29 : decode cX8_isWritten 29 = .ok (.iadd, 1) := by decide +kernel
theorem dX8_isWritten_30 : decode cX8_isWritten 30 = .ok (.invokevirtual 104, 3) := by decide +kernel
theorem dX8_isWritten_33 : decode cX8_isWritten 33 = .ok (.invokevirtual 114, 3) := by decide +kernel
theorem dX8_isWritten_36 : decode cX8_isWritten 36 = .ok (.aload_n 0, 1) := by decide +kernel
theorem dX8_isWritten_37 : decode cX8_isWritten 37 = .ok (.iload_n 1, 1) := by decide +kernel
theorem dX8_isWritten_38 : decode cX8_isWritten 38 = .ok (.iload 4, 2) := by decide +kernel
theorem dX8_isWritten_40 : decode cX8_isWritten 40 = .ok (.invokevirtual 185, 3) := by decide +kernel
theorem dX8_isWritten_43 : decode cX8_isWritten 43 = .ok (.if_icmp .ne 7, 3) := by decide +kernel
theorem dX8_isWritten_46 : decode cX8_isWritten 46 = .ok (.iconst 1, 1) := by decide +kernel
theorem dX8_isWritten_47 : decode cX8_isWritten 47 = .ok (.goto 4, 3) := by decide +kernel
theorem dX8_isWritten_50 : decode cX8_isWritten 50 = .ok (.iconst 0, 1) := by decide +kernel
theorem dX8_isWritten_51 : decode cX8_isWritten 51 = .ok (.istore_n 3, 1) := by decide +kernel
theorem dX8_isWritten_52 : decode cX8_isWritten 52 = .ok (.iinc 4 1, 3) := by decide +kernel
theorem dX8_isWritten_55 : decode cX8_isWritten 55 = .ok (.goto (-45), 3) := by decide +kernel
theorem dX8_isWritten_58 : decode cX8_isWritten 58 = .ok (.iload_n 3, 1) := by decide +kernel
theorem dX8_isWritten_59 : decode cX8_isWritten 59 = .ok (.ireturn, 1) := by decide +kernel
theorem dX8_written_0 : decode cX8_written 0 = .ok (.aload_n 0, 1) := by decide +kernel
theorem dX8_written_1 : decode cX8_written 1 = .ok (.iload_n 1, 1) := by decide +kernel
theorem dX8_written_2 : decode cX8_written 2 = .ok (.invokevirtual 174, 3) := by decide +kernel
theorem dX8_written_5 : decode cX8_written 5 = .ok (.ifCond .eq 11, 3) := by decide +kernel
theorem dX8_written_8 : decode cX8_written 8 = .ok (.aload_n 0, 1) := by decide +kernel
theorem dX8_written_9 : decode cX8_written 9 = .ok (.iload_n 2, 1) := by decide +kernel
theorem dX8_written_10 : decode cX8_written 10 = .ok (.invokevirtual 94, 3) := by decide +kernel
theorem dX8_written_13 : decode cX8_written 13 = .ok (.ifCond .ne 7, 3) := by decide +kernel
theorem dX8_written_16 : decode cX8_written 16 = .ok (.iconst (-1), 1) := by decide +kernel
theorem dX8_written_17 : decode cX8_written 17 = .ok (.goto 17, 3) := by decide +kernel
theorem dX8_written_20 : decode cX8_written 20 = .ok (.aload_n 0, 1) := by decide +kernel
theorem dX8_written_21 : decode cX8_written 21 = .ok (.iload_n 1, 1) := by decide +kernel
theorem dX8_written_22 : decode cX8_written 22 = .ok (.iload_n 2, 1) := by decide +kernel
theorem dX8_written_23 : decode cX8_written 23 = .ok (.invokevirtual 188, 3) := by decide +kernel
theorem dX8_written_26 : decode cX8_written 26 = .ok (.ifCond .eq 7, 3) := by decide +kernel
theorem dX8_written_29 : decode cX8_written 29 = .ok (.iconst 1, 1) := by decide +kernel
theorem dX8_written_30 : decode cX8_written 30 = .ok (.goto 4, 3) := by decide +kernel
theorem dX8_written_33 : decode cX8_written 33 = .ok (.iconst 0, 1) := by decide +kernel
theorem dX8_written_34 : decode cX8_written 34 = .ok (.ireturn, 1) := by decide +kernel
theorem dX8_mayBe_0 : decode cX8_mayBe 0 = .ok (.aload_n 0, 1) := by decide +kernel
theorem dX8_mayBe_1 : decode cX8_mayBe 1 = .ok (.iload_n 1, 1) := by decide +kernel
theorem dX8_mayBe_2 : decode cX8_mayBe 2 = .ok (.iload_n 2, 1) := by decide +kernel
theorem dX8_mayBe_3 : decode cX8_mayBe 3 = .ok (.invokevirtual 182, 3) := by decide +kernel
theorem dX8_mayBe_6 : decode cX8_mayBe 6 = .ok (.istore_n 3, 1) := by decide +kernel
theorem dX8_mayBe_7 : decode cX8_mayBe 7 = .ok (.iconst 0, 1) := by decide +kernel
theorem dX8_mayBe_8 : decode cX8_mayBe 8 = .ok (.istore 4, 2) := by decide +kernel
theorem dX8_mayBe_10 : decode cX8_mayBe 10 = .ok (.iload 4, 2) := by decide +kernel
theorem dX8_mayBe_12 : decode cX8_mayBe 12 = .ok (.aload_n 0, 1) := by decide +kernel
theorem dX8_mayBe_13 : decode cX8_mayBe 13 = .ok (.iload_n 1, 1) := by decide +kernel
theorem dX8_mayBe_14 : decode cX8_mayBe 14 = .ok (.invokevirtual 179, 3) := by decide +kernel
theorem dX8_mayBe_17 : decode cX8_mayBe 17 = .ok (.if_icmp .ge 127, 3) := by decide +kernel
theorem dX8_mayBe_20 : decode cX8_mayBe 20 = .ok (.iload_n 3, 1) := by decide +kernel
theorem dX8_mayBe_21 : decode cX8_mayBe 21 = .ok (.ifCond .eq 123, 3) := by decide +kernel
theorem dX8_mayBe_24 : decode cX8_mayBe 24 = .ok (.iload_n 2, 1) := by decide +kernel
theorem dX8_mayBe_25 : decode cX8_mayBe 25 = .ok (.iload 4, 2) := by decide +kernel
theorem dX8_mayBe_27 : decode cX8_mayBe 27 = .ok (.iadd, 1) := by decide +kernel
theorem dX8_mayBe_28 : decode cX8_mayBe 28 = .ok (.istore 5, 2) := by decide +kernel
theorem dX8_mayBe_30 : decode cX8_mayBe 30 = .ok (.aload_n 0, 1) := by decide +kernel
theorem dX8_mayBe_31 : decode cX8_mayBe 31 = .ok (.getfield 7, 3) := by decide +kernel
theorem dX8_mayBe_34 : decode cX8_mayBe 34 = .ok (.aload_n 0, 1) := by decide +kernel
theorem dX8_mayBe_35 : decode cX8_mayBe 35 = .ok (.iload_n 1, 1) := by decide +kernel
theorem dX8_mayBe_36 : decode cX8_mayBe 36 = .ok (.iload 4, 2) := by decide +kernel
theorem dX8_mayBe_38 : decode cX8_mayBe 38 = .ok (.invokevirtual 185, 3) := by decide +kernel
theorem dX8_mayBe_41 : decode cX8_mayBe 41 = .ok (.iaload, 1) := by decide +kernel
theorem dX8_mayBe_42 : decode cX8_mayBe 42 = .ok (.istore 6, 2) := by decide +kernel
theorem dX8_mayBe_44 : decode cX8_mayBe 44 = .ok (.aload_n 0, 1) := by decide +kernel
theorem dX8_mayBe_45 : decode cX8_mayBe 45 = .ok (.iload 5, 2) := by decide +kernel
theorem dX8_mayBe_47 : decode cX8_mayBe 47 = .ok (.iload 6, 2) := by decide +kernel
theorem dX8_mayBe_49 : decode cX8_mayBe 49 = .ok (.invokevirtual 121, 3) := by decide +kernel
theorem dX8_mayBe_52 : decode cX8_mayBe 52 = .ok (.ifCond .eq 30, 3) := by decide +kernel
theorem dX8_mayBe_55 : decode cX8_mayBe 55 = .ok (.aload_n 0, 1) := by decide +kernel
theorem dX8_mayBe_56 : decode cX8_mayBe 56 = .ok (.aload_n 0, 1) := by decide +kernel
theorem dX8_mayBe_57 : decode cX8_mayBe 57 = .ok (.iload 5, 2) := by decide +kernel
theorem dX8_mayBe_59 : decode cX8_mayBe 59 = .ok (.invokevirtual 104, 3) := by decide +kernel
theorem dX8_mayBe_62 : decode cX8_mayBe 62 = .ok (.iload 6, 2) := by decide +kernel
theorem dX8_mayBe_64 : decode cX8_mayBe 64 = .ok (.ior, 1) := by decide +kernel
theorem dX8_mayBe_65 : decode cX8_mayBe 65 = .ok (.invokevirtual 114, 3) := by decide +kernel
theorem dX8_mayBe_68 : decode cX8_mayBe 68 = .ok (.aload_n 0, 1) := by decide +kernel
theorem dX8_mayBe_69 : decode cX8_mayBe 69 = .ok (.iload_n 1, 1) := by decide +kernel
theorem dX8_mayBe_70 : decode cX8_mayBe 70 = .ok (.iload 4, 2) := by decide +kernel
theorem dX8_mayBe_72 : decode cX8_mayBe 72 = .ok (.invokevirtual 185, 3) := by decide +kernel
theorem dX8_mayBe_75 : decode cX8_mayBe 75 = .ok (.if_icmp .ne 7, 3) := by decide +kernel
theorem dX8_mayBe_78 : decode cX8_mayBe 78 = .ok (.iconst 1, 1) := by decide +kernel
theorem dX8_mayBe_79 : decode cX8_mayBe 79 = .ok (.goto 4, 3) := by decide +kernel
theorem dX8_mayBe_82 : decode cX8_mayBe 82 = .ok (.iconst 0, 1) := by decide +kernel
theorem dX8_mayBe_83 : decode cX8_mayBe 83 = .ok (.istore_n 3, 1) := by decide +kernel
theorem dX8_mayBe_84 : decode cX8_mayBe 84 = .ok (.iconst 0, 1) := by decide +kernel
theorem dX8_mayBe_85 : decode cX8_mayBe 85 = .ok (.istore 7, 2) := by decide +kernel
theorem dX8_mayBe_87 : decode cX8_mayBe 87 = .ok (.iload 7, 2) := by decide +kernel
theorem dX8_mayBe_89 : decode cX8_mayBe 89 = .ok (.iload 4, 2) := by decide +kernel
theorem dX8_mayBe_91 : decode cX8_mayBe 91 = .ok (.if_icmp .ge 47, 3) := by decide +kernel
theorem dX8_mayBe_94 : decode cX8_mayBe 94 = .ok (.iload_n 3, 1) := by decide +kernel
theorem dX8_mayBe_95 : decode cX8_mayBe 95 = .ok (.ifCond .eq 35, 3) := by decide +kernel
theorem dX8_mayBe_98 : decode cX8_mayBe 98 = .ok (.aload_n 0, 1) := by decide +kernel
theorem dX8_mayBe_99 : decode cX8_mayBe 99 = .ok (.getfield 25, 3) := by decide +kernel
theorem dX8_mayBe_102 : decode cX8_mayBe 102 = .ok (.bipush 6, 2) := by decide +kernel
theorem dX8_mayBe_104 : decode cX8_mayBe 104 = .ok (.aload_n 0, 1) := by decide +kernel
theorem dX8_mayBe_105 : decode cX8_mayBe 105 = .ok (.getfield 13, 3) := by decide +kernel
theorem dX8_mayBe_108 : decode cX8_mayBe 108 = .ok (.iload_n 2, 1) := by decide +kernel
theorem dX8_mayBe_109 : decode cX8_mayBe 109 = .ok (.iload 7, 2) := by decide +kernel
theorem dX8_mayBe_111 : decode cX8_mayBe 111 = .ok (.iadd, 1) := by decide +kernel
theorem dX8_mayBe_112 : decode cX8_mayBe 112 = .ok (.iaload, 1) := by decide +kernel
theorem dX8_mayBe_113 : decode cX8_mayBe 113 = .ok (.imul, 1) := by decide +kernel
theorem dX8_mayBe_114 : decode cX8_mayBe 114 = .ok (.aload_n 0, 1) := by decide +kernel
theorem dX8_mayBe_115 : decode cX8_mayBe 115 = .ok (.getfield 13, 3) := by decide +kernel
theorem dX8_mayBe_118 : decode cX8_mayBe 118 = .ok (.iload 5, 2) := by decide +kernel
theorem dX8_mayBe_120 : decode cX8_mayBe 120 = .ok (.iaload, 1) := by decide +kernel
theorem dX8_mayBe_121 : decode cX8_mayBe 121 = .ok (.iadd, 1) := by decide +kernel
theorem dX8_mayBe_122 : decode cX8_mayBe 122 = .ok (.iaload, 1) := by decide +kernel
theorem dX8_mayBe_123 : decode cX8_mayBe 123 = .ok (.ifCond .ne 7, 3) := by decide +kernel
theorem dX8_mayBe_126 : decode cX8_mayBe 126 = .ok (.iconst 1, 1) := by decide +kernel
theorem dX8_mayBe_127 : decode cX8_mayBe 127 = .ok (.goto 4, 3) := by decide +kernel
theorem dX8_mayBe_130 : decode cX8_mayBe 130 = .ok (.iconst 0, 1) := by decide +kernel
theorem dX8_mayBe_131 : decode cX8_mayBe 131 = .ok (.istore_n 3, 1) := by decide +kernel
theorem dX8_mayBe_132 : decode cX8_mayBe 132 = .ok (.iinc 7 1, 3) := by decide +kernel
theorem dX8_mayBe_135 : decode cX8_mayBe 135 = .ok (.goto (-48), 3) := by decide +kernel
theorem dX8_mayBe_138 : decode cX8_mayBe 138 = .ok (.iinc 4 1, 3) := by decide +kernel
theorem dX8_mayBe_141 : decode cX8_mayBe 141 = .ok (.goto (-131), 3) := by decide +kernel
theorem dX8_mayBe_144 : decode cX8_mayBe 144 = .ok (.iload_n 3, 1) := by decide +kernel
theorem dX8_mayBe_145 : decode cX8_mayBe 145 = .ok (.ireturn, 1) := by decide +kernel
theorem dX8_may_0 : decode cX8_may 0 = .ok (.aload_n 0, 1) := by decide +kernel
theorem dX8_may_1 : decode cX8_may 1 = .ok (.iload_n 1, 1) := by decide +kernel
theorem dX8_may_2 : decode cX8_may 2 = .ok (.invokevirtual 174, 3) := by decide +kernel
theorem dX8_may_5 : decode cX8_may 5 = .ok (.ifCond .eq 11, 3) := by decide +kernel
theorem dX8_may_8 : decode cX8_may 8 = .ok (.aload_n 0, 1) := by decide +kernel
theorem dX8_may_9 : decode cX8_may 9 = .ok (.iload_n 2, 1) := by decide +kernel
theorem dX8_may_10 : decode cX8_may 10 = .ok (.invokevirtual 94, 3) := by decide +kernel
theorem dX8_may_13 : decode cX8_may 13 = .ok (.ifCond .ne 7, 3) := by decide +kernel
theorem dX8_may_16 : decode cX8_may 16 = .ok (.iconst (-1), 1) := by decide +kernel
theorem dX8_may_17 : decode cX8_may 17 = .ok (.goto 17, 3) := by decide +kernel
theorem dX8_may_20 : decode cX8_may 20 = .ok (.aload_n 0, 1) := by decide +kernel
theorem dX8_may_21 : decode cX8_may 21 = .ok (.iload_n 1, 1) := by decide +kernel
theorem dX8_may_22 : decode cX8_may 22 = .ok (.iload_n 2, 1) := by decide +kernel
theorem dX8_may_23 : decode cX8_may 23 = .ok (.invokevirtual 191, 3) := by decide +kernel
theorem dX8_may_26 : decode cX8_may 26 = .ok (.ifCond .eq 7, 3) := by decide +kernel
theorem dX8_may_29 : decode cX8_may 29 = .ok (.iconst 1, 1) := by decide +kernel
theorem dX8_may_30 : decode cX8_may 30 = .ok (.goto 4, 3) := by decide +kernel
theorem dX8_may_33 : decode cX8_may 33 = .ok (.iconst 0, 1) := by decide +kernel
theorem dX8_may_34 : decode cX8_may 34 = .ok (.ireturn, 1) := by decide +kernel
theorem dX8_lostOn_0 : decode cX8_lostOn 0 = .ok (.iconst 0, 1) := by decide +kernel
theorem dX8_lostOn_1 : decode cX8_lostOn 1 = .ok (.istore_n 3, 1) := by decide +kernel
theorem dX8_lostOn_2 : decode cX8_lostOn 2 = .ok (.iconst 0, 1) := by decide +kernel
theorem dX8_lostOn_3 : decode cX8_lostOn 3 = .ok (.istore 4, 2) := by decide +kernel
theorem dX8_lostOn_5 : decode cX8_lostOn 5 = .ok (.iload 4, 2) := by decide +kernel
theorem dX8_lostOn_7 : decode cX8_lostOn 7 = .ok (.bipush 15, 2) := by decide +kernel
theorem dX8_lostOn_9 : decode cX8_lostOn 9 = .ok (.if_icmp .ge 52, 3) := by decide +kernel
theorem dX8_lostOn_12 : decode cX8_lostOn 12 = .ok (.aload_n 0, 1) := by decide +kernel
theorem dX8_lostOn_13 : decode cX8_lostOn 13 = .ok (.getfield 16, 3) := by decide +kernel
theorem dX8_lostOn_16 : decode cX8_lostOn 16 = .ok (.bipush 15, 2) := by decide +kernel
theorem dX8_lostOn_18 : decode cX8_lostOn 18 = .ok (.iload_n 1, 1) := by decide +kernel
theorem dX8_lostOn_19 : decode cX8_lostOn 19 = .ok (.imul, 1) := by decide +kernel
theorem dX8_lostOn_20 : decode cX8_lostOn 20 = .ok (.iload 4, 2) := by decide +kernel
theorem dX8_lostOn_22 : decode cX8_lostOn 22 = .ok (.iadd, 1) := by decide +kernel
theorem dX8_lostOn_23 : decode cX8_lostOn 23 = .ok (.iaload, 1) := by decide +kernel
theorem dX8_lostOn_24 : decode cX8_lostOn 24 = .ok (.istore 5, 2) := by decide +kernel
theorem dX8_lostOn_26 : decode cX8_lostOn 26 = .ok (.iload_n 3, 1) := by decide +kernel
theorem dX8_lostOn_27 : decode cX8_lostOn 27 = .ok (.aload_n 0, 1) := by decide +kernel
theorem dX8_lostOn_28 : decode cX8_lostOn 28 = .ok (.getfield 7, 3) := by decide +kernel
theorem dX8_lostOn_31 : decode cX8_lostOn 31 = .ok (.iload_n 2, 1) := by decide +kernel
theorem dX8_lostOn_32 : decode cX8_lostOn 32 = .ok (.iaload, 1) := by decide +kernel
theorem dX8_lostOn_33 : decode cX8_lostOn 33 = .ok (.iload 4, 2) := by decide +kernel
theorem dX8_lostOn_35 : decode cX8_lostOn 35 = .ok (.invokestatic 117, 3) := by decide +kernel
theorem dX8_lostOn_38 : decode cX8_lostOn 38 = .ok (.ifCond .ne 14, 3) := by decide +kernel
theorem dX8_lostOn_41 : decode cX8_lostOn 41 = .ok (.iload 5, 2) := by decide +kernel
theorem dX8_lostOn_43 : decode cX8_lostOn 43 = .ok (.iconst 2, 1) := by decide +kernel
theorem dX8_lostOn_44 : decode cX8_lostOn 44 = .ok (.if_icmp .le 8, 3) := by decide +kernel
theorem dX8_lostOn_47 : decode cX8_lostOn 47 = .ok (.iload 5, 2) := by decide +kernel
theorem dX8_lostOn_49 : decode cX8_lostOn 49 = .ok (.goto 4, 3) := by decide +kernel
theorem dX8_lostOn_52 : decode cX8_lostOn 52 = .ok (.iconst 0, 1) := by decide +kernel
theorem dX8_lostOn_53 : decode cX8_lostOn 53 = .ok (.iadd, 1) := by decide +kernel
theorem dX8_lostOn_54 : decode cX8_lostOn 54 = .ok (.istore_n 3, 1) := by decide +kernel
theorem dX8_lostOn_55 : decode cX8_lostOn 55 = .ok (.iinc 4 1, 3) := by decide +kernel
theorem dX8_lostOn_58 : decode cX8_lostOn 58 = .ok (.goto (-53), 3) := by decide +kernel
theorem dX8_lostOn_61 : decode cX8_lostOn 61 = .ok (.aload_n 0, 1) := by decide +kernel
theorem dX8_lostOn_62 : decode cX8_lostOn 62 = .ok (.getfield 22, 3) := by decide +kernel
theorem dX8_lostOn_65 : decode cX8_lostOn 65 = .ok (.iconst 3, 1) := by decide +kernel
theorem dX8_lostOn_66 : decode cX8_lostOn 66 = .ok (.iaload, 1) := by decide +kernel
theorem dX8_lostOn_67 : decode cX8_lostOn 67 = .ok (.iload_n 3, 1) := by decide +kernel
theorem dX8_lostOn_68 : decode cX8_lostOn 68 = .ok (.imul, 1) := by decide +kernel
theorem dX8_lostOn_69 : decode cX8_lostOn 69 = .ok (.ireturn, 1) := by decide +kernel
theorem dX8_lostBy_0 : decode cX8_lostBy 0 = .ok (.iconst 0, 1) := by decide +kernel
theorem dX8_lostBy_1 : decode cX8_lostBy 1 = .ok (.istore_n 3, 1) := by decide +kernel
theorem dX8_lostBy_2 : decode cX8_lostBy 2 = .ok (.iconst 0, 1) := by decide +kernel
theorem dX8_lostBy_3 : decode cX8_lostBy 3 = .ok (.istore 4, 2) := by decide +kernel
theorem dX8_lostBy_5 : decode cX8_lostBy 5 = .ok (.iload 4, 2) := by decide +kernel
theorem dX8_lostBy_7 : decode cX8_lostBy 7 = .ok (.aload_n 0, 1) := by decide +kernel
theorem dX8_lostBy_8 : decode cX8_lostBy 8 = .ok (.iload_n 1, 1) := by decide +kernel
theorem dX8_lostBy_9 : decode cX8_lostBy 9 = .ok (.invokevirtual 179, 3) := by decide +kernel
theorem dX8_lostBy_12 : decode cX8_lostBy 12 = .ok (.if_icmp .ge 27, 3) := by decide +kernel
theorem dX8_lostBy_15 : decode cX8_lostBy 15 = .ok (.iload_n 3, 1) := by decide +kernel
theorem dX8_lostBy_16 : decode cX8_lostBy 16 = .ok (.aload_n 0, 1) := by decide +kernel
theorem dX8_lostBy_17 : decode cX8_lostBy 17 = .ok (.iload_n 2, 1) := by decide +kernel
theorem dX8_lostBy_18 : decode cX8_lostBy 18 = .ok (.iload 4, 2) := by decide +kernel
theorem dX8_lostBy_20 : decode cX8_lostBy 20 = .ok (.iadd, 1) := by decide +kernel
theorem dX8_lostBy_21 : decode cX8_lostBy 21 = .ok (.aload_n 0, 1) := by decide +kernel
theorem dX8_lostBy_22 : decode cX8_lostBy 22 = .ok (.iload_n 1, 1) := by decide +kernel
theorem dX8_lostBy_23 : decode cX8_lostBy 23 = .ok (.iload 4, 2) := by decide +kernel
theorem dX8_lostBy_25 : decode cX8_lostBy 25 = .ok (.invokevirtual 185, 3) := by decide +kernel
theorem dX8_lostBy_28 : decode cX8_lostBy 28 = .ok (.invokevirtual 194, 3) := by decide +kernel
theorem dX8_lostBy_31 : decode cX8_lostBy 31 = .ok (.iadd, 1) := by decide +kernel
theorem dX8_lostBy_32 : decode cX8_lostBy 32 = .ok (.istore_n 3, 1) := by decide +kernel
theorem dX8_lostBy_33 : decode cX8_lostBy 33 = .ok (.iinc 4 1, 3) := by decide +kernel
theorem dX8_lostBy_36 : decode cX8_lostBy 36 = .ok (.goto (-31), 3) := by decide +kernel
theorem dX8_lostBy_39 : decode cX8_lostBy 39 = .ok (.iload_n 3, 1) := by decide +kernel
theorem dX8_lostBy_40 : decode cX8_lostBy 40 = .ok (.ireturn, 1) := by decide +kernel
theorem dX8_lost_0 : decode cX8_lost 0 = .ok (.aload_n 0, 1) := by decide +kernel
theorem dX8_lost_1 : decode cX8_lost 1 = .ok (.iload_n 1, 1) := by decide +kernel
theorem dX8_lost_2 : decode cX8_lost 2 = .ok (.invokevirtual 174, 3) := by decide +kernel
theorem dX8_lost_5 : decode cX8_lost 5 = .ok (.ifCond .eq 11, 3) := by decide +kernel
theorem dX8_lost_8 : decode cX8_lost 8 = .ok (.aload_n 0, 1) := by decide +kernel
theorem dX8_lost_9 : decode cX8_lost 9 = .ok (.iload_n 2, 1) := by decide +kernel
theorem dX8_lost_10 : decode cX8_lost 10 = .ok (.invokevirtual 94, 3) := by decide +kernel
theorem dX8_lost_13 : decode cX8_lost 13 = .ok (.ifCond .ne 7, 3) := by decide +kernel
theorem dX8_lost_16 : decode cX8_lost 16 = .ok (.iconst (-1), 1) := by decide +kernel
theorem dX8_lost_17 : decode cX8_lost 17 = .ok (.goto 23, 3) := by decide +kernel
theorem dX8_lost_20 : decode cX8_lost 20 = .ok (.aload_n 0, 1) := by decide +kernel
theorem dX8_lost_21 : decode cX8_lost 21 = .ok (.iload_n 1, 1) := by decide +kernel
theorem dX8_lost_22 : decode cX8_lost 22 = .ok (.iload_n 2, 1) := by decide +kernel
theorem dX8_lost_23 : decode cX8_lost 23 = .ok (.invokevirtual 182, 3) := by decide +kernel
theorem dX8_lost_26 : decode cX8_lost 26 = .ok (.ifCond .eq 12, 3) := by decide +kernel
theorem dX8_lost_29 : decode cX8_lost 29 = .ok (.aload_n 0, 1) := by decide +kernel
theorem dX8_lost_30 : decode cX8_lost 30 = .ok (.iload_n 1, 1) := by decide +kernel
theorem dX8_lost_31 : decode cX8_lost 31 = .ok (.iload_n 2, 1) := by decide +kernel
theorem dX8_lost_32 : decode cX8_lost 32 = .ok (.invokevirtual 197, 3) := by decide +kernel
theorem dX8_lost_35 : decode cX8_lost 35 = .ok (.goto 5, 3) := by decide +kernel
theorem dX8_lost_38 : decode cX8_lost 38 = .ok (.bipush (-2), 2) := by decide +kernel
theorem dX8_lost_40 : decode cX8_lost 40 = .ok (.ireturn, 1) := by decide +kernel
theorem dX8_findRow_0 : decode cX8_findRow 0 = .ok (.aload_n 0, 1) := by decide +kernel
theorem dX8_findRow_1 : decode cX8_findRow 1 = .ok (.getfield 37, 3) := by decide +kernel
theorem dX8_findRow_4 : decode cX8_findRow 4 = .ok (.aload_n 0, 1) := by decide +kernel
theorem dX8_findRow_5 : decode cX8_findRow 5 = .ok (.getfield 71, 3) := by decide +kernel
theorem dX8_findRow_8 : decode cX8_findRow 8 = .ok (.iconst 0, 1) := by decide +kernel
theorem dX8_findRow_9 : decode cX8_findRow 9 = .ok (.iastore, 1) := by decide +kernel
theorem dX8_findRow_10 : decode cX8_findRow 10 = .ok (.aload_n 0, 1) := by decide +kernel
theorem dX8_findRow_11 : decode cX8_findRow 11 = .ok (.getfield 71, 3) := by decide +kernel
theorem dX8_findRow_14 : decode cX8_findRow 14 = .ok (.iconst 1, 1) := by decide +kernel
theorem dX8_findRow_15 : decode cX8_findRow 15 = .ok (.isub, 1) := by decide +kernel
theorem dX8_findRow_16 : decode cX8_findRow 16 = .ok (.istore_n 1, 1) := by decide +kernel
theorem dX8_findRow_17 : decode cX8_findRow 17 = .ok (.iload_n 1, 1) := by decide +kernel
theorem dX8_findRow_18 : decode cX8_findRow 18 = .ok (.ifCond .lt 105, 3) := by decide +kernel
theorem dX8_findRow_21 : decode cX8_findRow 21 = .ok (.aload_n 0, 1) := by decide +kernel
theorem dX8_findRow_22 : decode cX8_findRow 22 = .ok (.getfield 37, 3) := by decide +kernel
theorem dX8_findRow_25 : decode cX8_findRow 25 = .ok (.iload_n 1, 1) := by decide +kernel
theorem dX8_findRow_26 : decode cX8_findRow 26 = .ok (.aload_n 0, 1) := by decide +kernel
theorem dX8_findRow_27 : decode cX8_findRow 27 = .ok (.getfield 37, 3) := by decide +kernel
theorem dX8_findRow_30 : decode cX8_findRow 30 = .ok (.iload_n 1, 1) := by decide +kernel
theorem dX8_findRow_31 : decode cX8_findRow 31 = .ok (.iconst 1, 1) := by decide +kernel
theorem dX8_findRow_32 : decode cX8_findRow 32 = .ok (.iadd, 1) := by decide +kernel
theorem dX8_findRow_33 : decode cX8_findRow 33 = .ok (.iaload, 1) := by decide +kernel
theorem dX8_findRow_34 : decode cX8_findRow 34 = .ok (.iastore, 1) := by decide +kernel
theorem dX8_findRow_35 : decode cX8_findRow 35 = .ok (.iconst 0, 1) := by decide +kernel
theorem dX8_findRow_36 : decode cX8_findRow 36 = .ok (.istore_n 2, 1) := by decide +kernel
theorem dX8_findRow_37 : decode cX8_findRow 37 = .ok (.iload_n 2, 1) := by decide +kernel
theorem dX8_findRow_38 : decode cX8_findRow 38 = .ok (.aload_n 0, 1) := by decide +kernel
theorem dX8_findRow_39 : decode cX8_findRow 39 = .ok (.getfield 83, 3) := by decide +kernel
theorem dX8_findRow_42 : decode cX8_findRow 42 = .ok (.if_icmp .ge 75, 3) := by decide +kernel
theorem dX8_findRow_45 : decode cX8_findRow 45 = .ok (.aload_n 0, 1) := by decide +kernel
theorem dX8_findRow_46 : decode cX8_findRow 46 = .ok (.getfield 43, 3) := by decide +kernel
theorem dX8_findRow_49 : decode cX8_findRow 49 = .ok (.bipush 10, 2) := by decide +kernel
theorem dX8_findRow_51 : decode cX8_findRow 51 = .ok (.iload_n 1, 1) := by decide +kernel
theorem dX8_findRow_52 : decode cX8_findRow 52 = .ok (.imul, 1) := by decide +kernel
theorem dX8_findRow_53 : decode cX8_findRow 53 = .ok (.iload_n 2, 1) := by decide +kernel
theorem dX8_findRow_54 : decode cX8_findRow 54 = .ok (.iadd, 1) := by decide +kernel
theorem dX8_findRow_55 : decode cX8_findRow 55 = .ok (.iaload, 1) := by decide +kernel
theorem dX8_findRow_56 : decode cX8_findRow 56 = .ok (.iconst 1, 1) := by decide +kernel
theorem dX8_findRow_57 : decode cX8_findRow 57 = .ok (.if_icmp .ne 54, 3) := by decide +kernel
theorem dX8_findRow_60 : decode cX8_findRow 60 = .ok (.aload_n 0, 1) := by decide +kernel
theorem dX8_findRow_61 : decode cX8_findRow 61 = .ok (.getfield 46, 3) := by decide +kernel
theorem dX8_findRow_64 : decode cX8_findRow 64 = .ok (.bipush 10, 2) := by decide +kernel
theorem dX8_findRow_66 : decode cX8_findRow 66 = .ok (.iload_n 1, 1) := by decide +kernel
theorem dX8_findRow_67 : decode cX8_findRow 67 = .ok (.imul, 1) := by decide +kernel
theorem dX8_findRow_68 : decode cX8_findRow 68 = .ok (.iload_n 2, 1) := by decide +kernel
theorem dX8_findRow_69 : decode cX8_findRow 69 = .ok (.iadd, 1) := by decide +kernel
theorem dX8_findRow_70 : decode cX8_findRow 70 = .ok (.iaload, 1) := by decide +kernel
theorem dX8_findRow_71 : decode cX8_findRow 71 = .ok (.aload_n 0, 1) := by decide +kernel
theorem dX8_findRow_72 : decode cX8_findRow 72 = .ok (.getfield 37, 3) := by decide +kernel
theorem dX8_findRow_75 : decode cX8_findRow 75 = .ok (.iload_n 1, 1) := by decide +kernel
theorem dX8_findRow_76 : decode cX8_findRow 76 = .ok (.aload_n 0, 1) := by decide +kernel
theorem dX8_findRow_77 : decode cX8_findRow 77 = .ok (.iload_n 2, 1) := by decide +kernel
theorem dX8_findRow_78 : decode cX8_findRow 78 = .ok (.invokevirtual 179, 3) := by decide +kernel
theorem dX8_findRow_81 : decode cX8_findRow 81 = .ok (.iadd, 1) := by decide +kernel
theorem dX8_findRow_82 : decode cX8_findRow 82 = .ok (.iaload, 1) := by decide +kernel
theorem dX8_findRow_83 : decode cX8_findRow 83 = .ok (.iadd, 1) := by decide +kernel
theorem dX8_findRow_84 : decode cX8_findRow 84 = .ok (.istore_n 3, 1) := by decide +kernel
theorem dX8_findRow_85 : decode cX8_findRow 85 = .ok (.aload_n 0, 1) := by decide +kernel
theorem dX8_findRow_86 : decode cX8_findRow 86 = .ok (.getfield 37, 3) := by decide +kernel
theorem dX8_findRow_89 : decode cX8_findRow 89 = .ok (.iload_n 1, 1) := by decide +kernel
theorem dX8_findRow_90 : decode cX8_findRow 90 = .ok (.iload_n 3, 1) := by decide +kernel
theorem dX8_findRow_91 : decode cX8_findRow 91 = .ok (.aload_n 0, 1) := by decide +kernel
theorem dX8_findRow_92 : decode cX8_findRow 92 = .ok (.getfield 37, 3) := by decide +kernel
theorem dX8_findRow_95 : decode cX8_findRow 95 = .ok (.iload_n 1, 1) := by decide +kernel
theorem dX8_findRow_96 : decode cX8_findRow 96 = .ok (.iaload, 1) := by decide +kernel
theorem dX8_findRow_97 : decode cX8_findRow 97 = .ok (.if_icmp .le 7, 3) := by decide +kernel
theorem dX8_findRow_100 : decode cX8_findRow 100 = .ok (.iload_n 3, 1) := by decide +kernel
theorem dX8_findRow_101 : decode cX8_findRow 101 = .ok (.goto 9, 3) := by decide +kernel
theorem dX8_findRow_104 : decode cX8_findRow 104 = .ok (.aload_n 0, 1) := by decide +kernel
theorem dX8_findRow_105 : decode cX8_findRow 105 = .ok (.getfield 37, 3) := by decide +kernel
theorem dX8_findRow_108 : decode cX8_findRow 108 = .ok (.iload_n 1, 1) := by decide +kernel
theorem dX8_findRow_109 : decode cX8_findRow 109 = .ok (.iaload, 1) := by decide +kernel
theorem dX8_findRow_110 : decode cX8_findRow 110 = .ok (.iastore, 1) := by decide +kernel
theorem dX8_findRow_111 : decode cX8_findRow 111 = .ok (.iinc 2 1, 3) := by decide +kernel
theorem dX8_findRow_114 : decode cX8_findRow 114 = .ok (.goto (-77), 3) := by decide +kernel
theorem dX8_findRow_117 : decode cX8_findRow 117 = .ok (.iinc 1 (-1), 3) := by decide +kernel
theorem dX8_findRow_120 : decode cX8_findRow 120 = .ok (.goto (-103), 3) := by decide +kernel
theorem dX8_findRow_123 : decode cX8_findRow 123 = .ok (.aload_n 0, 1) := by decide +kernel
theorem dX8_findRow_124 : decode cX8_findRow 124 = .ok (.iconst 0, 1) := by decide +kernel
theorem dX8_findRow_125 : decode cX8_findRow 125 = .ok (.putfield 200, 3) := by decide +kernel
theorem dX8_findRow_128 : decode cX8_findRow 128 = .ok (.iconst 0, 1) := by decide +kernel
theorem dX8_findRow_129 : decode cX8_findRow 129 = .ok (.istore_n 1, 1) := by decide +kernel
theorem dX8_findRow_130 : decode cX8_findRow 130 = .ok (.iload_n 1, 1) := by decide +kernel
theorem dX8_findRow_131 : decode cX8_findRow 131 = .ok (.aload_n 0, 1) := by decide +kernel
theorem dX8_findRow_132 : decode cX8_findRow 132 = .ok (.getfield 71, 3) := by decide +kernel
theorem dX8_findRow_135 : decode cX8_findRow 135 = .ok (.if_icmp .ge 137, 3) := by decide +kernel
theorem dX8_findRow_138 : decode cX8_findRow 138 = .ok (.bipush (-4), 2) := by decide +kernel
theorem dX8_findRow_140 : decode cX8_findRow 140 = .ok (.istore_n 2, 1) := by decide +kernel
theorem dX8_findRow_141 : decode cX8_findRow 141 = .ok (.aload_n 0, 1) := by decide +kernel
theorem dX8_findRow_142 : decode cX8_findRow 142 = .ok (.getfield 83, 3) := by decide +kernel
theorem dX8_findRow_145 : decode cX8_findRow 145 = .ok (.iconst 1, 1) := by decide +kernel
theorem dX8_findRow_146 : decode cX8_findRow 146 = .ok (.isub, 1) := by decide +kernel
theorem dX8_findRow_147 : decode cX8_findRow 147 = .ok (.istore_n 3, 1) := by decide +kernel
theorem dX8_findRow_148 : decode cX8_findRow 148 = .ok (.iload_n 3, 1) := by decide +kernel
theorem dX8_findRow_149 : decode cX8_findRow 149 = .ok (.ifCond .lt 75, 3) := by decide +kernel
theorem dX8_findRow_152 : decode cX8_findRow 152 = .ok (.aload_n 0, 1) := by decide +kernel
theorem dX8_findRow_153 : decode cX8_findRow 153 = .ok (.getfield 43, 3) := by decide +kernel
theorem dX8_findRow_156 : decode cX8_findRow 156 = .ok (.bipush 10, 2) := by decide +kernel
theorem dX8_findRow_158 : decode cX8_findRow 158 = .ok (.iload_n 1, 1) := by decide +kernel
theorem dX8_findRow_159 : decode cX8_findRow 159 = .ok (.imul, 1) := by decide +kernel
theorem dX8_findRow_160 : decode cX8_findRow 160 = .ok (.iload_n 3, 1) := by decide +kernel
theorem dX8_findRow_161 : decode cX8_findRow 161 = .ok (.iadd, 1) := by decide +kernel
theorem dX8_findRow_162 : decode cX8_findRow 162 = .ok (.iaload, 1) := by decide +kernel
theorem dX8_findRow_163 : decode cX8_findRow 163 = .ok (.iconst 1, 1) := by decide +kernel
theorem dX8_findRow_164 : decode cX8_findRow 164 = .ok (.if_icmp .ne 40, 3) := by decide +kernel
theorem dX8_findRow_167 : decode cX8_findRow 167 = .ok (.aload_n 0, 1) := by decide +kernel
theorem dX8_findRow_168 : decode cX8_findRow 168 = .ok (.getfield 46, 3) := by decide +kernel
theorem dX8_findRow_171 : decode cX8_findRow 171 = .ok (.bipush 10, 2) := by decide +kernel
theorem dX8_findRow_173 : decode cX8_findRow 173 = .ok (.iload_n 1, 1) := by decide +kernel
theorem dX8_findRow_174 : decode cX8_findRow 174 = .ok (.imul, 1) := by decide +kernel
theorem dX8_findRow_175 : decode cX8_findRow 175 = .ok (.iload_n 3, 1) := by decide +kernel
theorem dX8_findRow_176 : decode cX8_findRow 176 = .ok (.iadd, 1) := by decide +kernel
theorem dX8_findRow_177 : decode cX8_findRow 177 = .ok (.iaload, 1) := by decide +kernel
theorem dX8_findRow_178 : decode cX8_findRow 178 = .ok (.aload_n 0, 1) := by decide +kernel
theorem dX8_findRow_179 : decode cX8_findRow 179 = .ok (.getfield 37, 3) := by decide +kernel
theorem dX8_findRow_182 : decode cX8_findRow 182 = .ok (.iload_n 1, 1) := by decide +kernel
theorem dX8_findRow_183 : decode cX8_findRow 183 = .ok (.aload_n 0, 1) := by decide +kernel
theorem dX8_findRow_184 : decode cX8_findRow 184 = .ok (.iload_n 3, 1) := by decide +kernel
theorem dX8_findRow_185 : decode cX8_findRow 185 = .ok (.invokevirtual 179, 3) := by decide +kernel
theorem dX8_findRow_188 : decode cX8_findRow 188 = .ok (.iadd, 1) := by decide +kernel
theorem dX8_findRow_189 : decode cX8_findRow 189 = .ok (.iaload, 1) := by decide +kernel
theorem dX8_findRow_190 : decode cX8_findRow 190 = .ok (.iadd, 1) := by decide +kernel
theorem dX8_findRow_191 : decode cX8_findRow 191 = .ok (.aload_n 0, 1) := by decide +kernel
theorem dX8_findRow_192 : decode cX8_findRow 192 = .ok (.getfield 37, 3) := by decide +kernel
theorem dX8_findRow_195 : decode cX8_findRow 195 = .ok (.iload_n 1, 1) := by decide +kernel
theorem dX8_findRow_196 : decode cX8_findRow 196 = .ok (.iaload, 1) := by decide +kernel
theorem dX8_findRow_197 : decode cX8_findRow 197 = .ok (.if_icmp .ne 7, 3) := by decide +kernel
theorem dX8_findRow_200 : decode cX8_findRow 200 = .ok (.iconst 1, 1) := by decide +kernel
theorem dX8_findRow_201 : decode cX8_findRow 201 = .ok (.goto 4, 3) := by decide +kernel
theorem dX8_findRow_204 : decode cX8_findRow 204 = .ok (.iconst 0, 1) := by decide +kernel
theorem dX8_findRow_205 : decode cX8_findRow 205 = .ok (.istore 4, 2) := by decide +kernel
theorem dX8_findRow_207 : decode cX8_findRow 207 = .ok (.iload 4, 2) := by decide +kernel
theorem dX8_findRow_209 : decode cX8_findRow 209 = .ok (.ifCond .eq 7, 3) := by decide +kernel
theorem dX8_findRow_212 : decode cX8_findRow 212 = .ok (.iload_n 3, 1) := by decide +kernel
theorem dX8_findRow_213 : decode cX8_findRow 213 = .ok (.goto 4, 3) := by decide +kernel
theorem dX8_findRow_216 : decode cX8_findRow 216 = .ok (.iload_n 2, 1) := by decide +kernel
theorem dX8_findRow_217 : decode cX8_findRow 217 = .ok (.istore_n 2, 1) := by decide +kernel
theorem dX8_findRow_218 : decode cX8_findRow 218 = .ok (.iinc 3 (-1), 3) := by decide +kernel
theorem dX8_findRow_221 : decode cX8_findRow 221 = .ok (.goto (-73), 3) := by decide +kernel
theorem dX8_findRow_224 : decode cX8_findRow 224 = .ok (.iload_n 2, 1) := by decide +kernel
theorem dX8_findRow_225 : decode cX8_findRow 225 = .ok (.ifCond .lt 28, 3) := by decide +kernel
theorem dX8_findRow_228 : decode cX8_findRow 228 = .ok (.aload_n 0, 1) := by decide +kernel
theorem dX8_findRow_229 : decode cX8_findRow 229 = .ok (.getfield 40, 3) := by decide +kernel
theorem dX8_findRow_232 : decode cX8_findRow 232 = .ok (.aload_n 0, 1) := by decide +kernel
theorem dX8_findRow_233 : decode cX8_findRow 233 = .ok (.getfield 200, 3) := by decide +kernel
theorem dX8_findRow_236 : decode cX8_findRow 236 = .ok (.bipush 10, 2) := by decide +kernel
theorem dX8_findRow_238 : decode cX8_findRow 238 = .ok (.iload_n 1, 1) := by decide +kernel
theorem dX8_findRow_239 : decode cX8_findRow 239 = .ok (.imul, 1) := by decide +kernel
theorem dX8_findRow_240 : decode cX8_findRow 240 = .ok (.iload_n 2, 1) := by decide +kernel
theorem dX8_findRow_241 : decode cX8_findRow 241 = .ok (.iadd, 1) := by decide +kernel
theorem dX8_findRow_242 : decode cX8_findRow 242 = .ok (.iastore, 1) := by decide +kernel
theorem dX8_findRow_243 : decode cX8_findRow 243 = .ok (.aload_n 0, 1) := by decide +kernel
theorem dX8_findRow_244 : decode cX8_findRow 244 = .ok (.dup, 1) := by decide +kernel
theorem dX8_findRow_245 : decode cX8_findRow 245 = .ok (.getfield 200, 3) := by decide +kernel
theorem dX8_findRow_248 : decode cX8_findRow 248 = .ok (.iconst 1, 1) := by decide +kernel
theorem dX8_findRow_249 : decode cX8_findRow 249 = .ok (.iadd, 1) := by decide +kernel
theorem dX8_findRow_250 : decode cX8_findRow 250 = .ok (.putfield 200, 3) := by decide +kernel
theorem dX8_findRow_253 : decode cX8_findRow 253 = .ok (.iload_n 1, 1) := by decide +kernel
theorem dX8_findRow_254 : decode cX8_findRow 254 = .ok (.iload_n 2, 1) := by decide +kernel
theorem dX8_findRow_255 : decode cX8_findRow 255 = .ok (.ifCond .ge 7, 3) := by decide +kernel
theorem dX8_findRow_258 : decode cX8_findRow 258 = .ok (.iconst 1, 1) := by decide +kernel
theorem dX8_findRow_259 : decode cX8_findRow 259 = .ok (.goto 8, 3) := by decide +kernel
theorem dX8_findRow_262 : decode cX8_findRow 262 = .ok (.aload_n 0, 1) := by decide +kernel
theorem dX8_findRow_263 : decode cX8_findRow 263 = .ok (.iload_n 2, 1) := by decide +kernel
theorem dX8_findRow_264 : decode cX8_findRow 264 = .ok (.invokevirtual 179, 3) := by decide +kernel
theorem dX8_findRow_267 : decode cX8_findRow 267 = .ok (.iadd, 1) := by decide +kernel
theorem dX8_findRow_268 : decode cX8_findRow 268 = .ok (.istore_n 1, 1) := by decide +kernel
theorem dX8_findRow_269 : decode cX8_findRow 269 = .ok (.goto (-139), 3) := by decide +kernel
theorem dX8_findRow_272 : decode cX8_findRow 272 = .ok (.return_, 1) := by decide +kernel
theorem dX8_tellRow_0 : decode cX8_tellRow 0 = .ok (.iload_n 1, 1) := by decide +kernel
theorem dX8_tellRow_1 : decode cX8_tellRow 1 = .ok (.iconst (-1), 1) := by decide +kernel
theorem dX8_tellRow_2 : decode cX8_tellRow 2 = .ok (.if_icmp .ne 12, 3) := by decide +kernel
theorem dX8_tellRow_5 : decode cX8_tellRow 5 = .ok (.aload_n 0, 1) := by decide +kernel
theorem dX8_tellRow_6 : decode cX8_tellRow 6 = .ok (.getfield 37, 3) := by decide +kernel
theorem dX8_tellRow_9 : decode cX8_tellRow 9 = .ok (.iconst 0, 1) := by decide +kernel
theorem dX8_tellRow_10 : decode cX8_tellRow 10 = .ok (.iaload, 1) := by decide +kernel
theorem dX8_tellRow_11 : decode cX8_tellRow 11 = .ok (.goto 35, 3) := by decide +kernel
theorem dX8_tellRow_14 : decode cX8_tellRow 14 = .ok (.iload_n 1, 1) := by decide +kernel
theorem dX8_tellRow_15 : decode cX8_tellRow 15 = .ok (.bipush (-2), 2) := by decide +kernel
theorem dX8_tellRow_17 : decode cX8_tellRow 17 = .ok (.if_icmp .ne 10, 3) := by decide +kernel
theorem dX8_tellRow_20 : decode cX8_tellRow 20 = .ok (.aload_n 0, 1) := by decide +kernel
theorem dX8_tellRow_21 : decode cX8_tellRow 21 = .ok (.getfield 200, 3) := by decide +kernel
theorem dX8_tellRow_24 : decode cX8_tellRow 24 = .ok (.goto 22, 3) := by decide +kernel
theorem dX8_tellRow_27 : decode cX8_tellRow 27 = .ok (.iload_n 1, 1) := by decide +kernel
theorem dX8_tellRow_28 : decode cX8_tellRow 28 = .ok (.aload_n 0, 1) := by decide +kernel
theorem dX8_tellRow_29 : decode cX8_tellRow 29 = .ok (.getfield 200, 3) := by decide +kernel
theorem dX8_tellRow_32 : decode cX8_tellRow 32 = .ok (.if_icmp .ge 12, 3) := by decide +kernel
theorem dX8_tellRow_35 : decode cX8_tellRow 35 = .ok (.aload_n 0, 1) := by decide +kernel
theorem dX8_tellRow_36 : decode cX8_tellRow 36 = .ok (.getfield 40, 3) := by decide +kernel
theorem dX8_tellRow_39 : decode cX8_tellRow 39 = .ok (.iload_n 1, 1) := by decide +kernel
theorem dX8_tellRow_40 : decode cX8_tellRow 40 = .ok (.iaload, 1) := by decide +kernel
theorem dX8_tellRow_41 : decode cX8_tellRow 41 = .ok (.goto 5, 3) := by decide +kernel
theorem dX8_tellRow_44 : decode cX8_tellRow 44 = .ok (.bipush (-4), 2) := by decide +kernel
theorem dX8_tellRow_46 : decode cX8_tellRow 46 = .ok (.ireturn, 1) := by decide +kernel
theorem dX8_read_0 : decode cX8_read 0 = .ok (.iload_n 1, 1) := by decide +kernel
theorem dX8_read_1 : decode cX8_read 1 = .ok (.i2l, 1) := by decide +kernel
theorem dX8_read_2 : decode cX8_read 2 = .ok (.ldc2_w 203, 3) := by decide +kernel
theorem dX8_read_5 : decode cX8_read 5 = .ok (.ldc2_w 133, 3) := by decide +kernel
theorem dX8_read_8 : decode cX8_read 8 = .ok (.invokestatic 75, 3) := by decide +kernel
theorem dX8_read_11 : decode cX8_read 11 = .ok (.ifCond .ne 5, 3) := by decide +kernel
theorem dX8_read_14 : decode cX8_read 14 = .ok (.iconst (-1), 1) := by decide +kernel
theorem dX8_read_15 : decode cX8_read 15 = .ok (.ireturn, 1) := by decide +kernel
theorem dX8_read_16 : decode cX8_read 16 = .ok (.iconst 0, 1) := by decide +kernel
theorem dX8_read_17 : decode cX8_read 17 = .ok (.istore_n 2, 1) := by decide +kernel
theorem dX8_read_18 : decode cX8_read 18 = .ok (.iload_n 2, 1) := by decide +kernel
theorem dX8_read_19 : decode cX8_read 19 = .ok (.aload_n 0, 1) := by decide +kernel
theorem dX8_read_20 : decode cX8_read 20 = .ok (.getfield 71, 3) := by decide +kernel
theorem dX8_read_23 : decode cX8_read 23 = .ok (.if_icmp .ge 72, 3) := by decide +kernel
theorem dX8_read_26 : decode cX8_read 26 = .ok (.iconst 0, 1) := by decide +kernel
theorem dX8_read_27 : decode cX8_read 27 = .ok (.istore_n 3, 1) := by decide +kernel
theorem dX8_read_28 : decode cX8_read 28 = .ok (.iload_n 3, 1) := by decide +kernel
theorem dX8_read_29 : decode cX8_read 29 = .ok (.aload_n 0, 1) := by decide +kernel
theorem dX8_read_30 : decode cX8_read 30 = .ok (.getfield 83, 3) := by decide +kernel
theorem dX8_read_33 : decode cX8_read 33 = .ok (.if_icmp .ge 56, 3) := by decide +kernel
theorem dX8_read_36 : decode cX8_read 36 = .ok (.aload_n 0, 1) := by decide +kernel
theorem dX8_read_37 : decode cX8_read 37 = .ok (.getfield 43, 3) := by decide +kernel
theorem dX8_read_40 : decode cX8_read 40 = .ok (.bipush 10, 2) := by decide +kernel
theorem dX8_read_42 : decode cX8_read 42 = .ok (.iload_n 2, 1) := by decide +kernel
theorem dX8_read_43 : decode cX8_read 43 = .ok (.imul, 1) := by decide +kernel
theorem dX8_read_44 : decode cX8_read 44 = .ok (.iload_n 3, 1) := by decide +kernel
theorem dX8_read_45 : decode cX8_read 45 = .ok (.iadd, 1) := by decide +kernel
theorem dX8_read_46 : decode cX8_read 46 = .ok (.aload_n 0, 1) := by decide +kernel
theorem dX8_read_47 : decode cX8_read 47 = .ok (.iload_n 3, 1) := by decide +kernel
theorem dX8_read_48 : decode cX8_read 48 = .ok (.iload_n 2, 1) := by decide +kernel
theorem dX8_read_49 : decode cX8_read 49 = .ok (.invokevirtual 188, 3) := by decide +kernel
theorem dX8_read_52 : decode cX8_read 52 = .ok (.ifCond .eq 7, 3) := by decide +kernel
theorem dX8_read_55 : decode cX8_read 55 = .ok (.iconst 1, 1) := by decide +kernel
theorem dX8_read_56 : decode cX8_read 56 = .ok (.goto 4, 3) := by decide +kernel
theorem dX8_read_59 : decode cX8_read 59 = .ok (.iconst 0, 1) := by decide +kernel
theorem dX8_read_60 : decode cX8_read 60 = .ok (.iastore, 1) := by decide +kernel
theorem dX8_read_61 : decode cX8_read 61 = .ok (.aload_n 0, 1) := by decide +kernel
theorem dX8_read_62 : decode cX8_read 62 = .ok (.getfield 46, 3) := by decide +kernel
theorem dX8_read_65 : decode cX8_read 65 = .ok (.bipush 10, 2) := by decide +kernel
theorem dX8_read_67 : decode cX8_read 67 = .ok (.iload_n 2, 1) := by decide +kernel
theorem dX8_read_68 : decode cX8_read 68 = .ok (.imul, 1) := by decide +kernel
theorem dX8_read_69 : decode cX8_read 69 = .ok (.iload_n 3, 1) := by decide +kernel
theorem dX8_read_70 : decode cX8_read 70 = .ok (.iadd, 1) := by decide +kernel
theorem dX8_read_71 : decode cX8_read 71 = .ok (.aload_n 0, 1) := by decide +kernel
theorem dX8_read_72 : decode cX8_read 72 = .ok (.getfield 28, 3) := by decide +kernel
theorem dX8_read_75 : decode cX8_read 75 = .ok (.bipush 8, 2) := by decide +kernel
theorem dX8_read_77 : decode cX8_read 77 = .ok (.iload_n 3, 1) := by decide +kernel
theorem dX8_read_78 : decode cX8_read 78 = .ok (.imul, 1) := by decide +kernel
theorem dX8_read_79 : decode cX8_read 79 = .ok (.iconst 1, 1) := by decide +kernel
theorem dX8_read_80 : decode cX8_read 80 = .ok (.iadd, 1) := by decide +kernel
theorem dX8_read_81 : decode cX8_read 81 = .ok (.iaload, 1) := by decide +kernel
theorem dX8_read_82 : decode cX8_read 82 = .ok (.iastore, 1) := by decide +kernel
theorem dX8_read_83 : decode cX8_read 83 = .ok (.iinc 3 1, 3) := by decide +kernel
theorem dX8_read_86 : decode cX8_read 86 = .ok (.goto (-58), 3) := by decide +kernel
theorem dX8_read_89 : decode cX8_read 89 = .ok (.iinc 2 1, 3) := by decide +kernel
theorem dX8_read_92 : decode cX8_read 92 = .ok (.goto (-74), 3) := by decide +kernel
theorem dX8_read_95 : decode cX8_read 95 = .ok (.aload_n 0, 1) := by decide +kernel
theorem dX8_read_96 : decode cX8_read 96 = .ok (.invokevirtual 205, 3) := by decide +kernel
theorem dX8_read_99 : decode cX8_read 99 = .ok (.aload_n 0, 1) := by decide +kernel
theorem dX8_read_100 : decode cX8_read 100 = .ok (.iload_n 1, 1) := by decide +kernel
theorem dX8_read_101 : decode cX8_read 101 = .ok (.invokevirtual 208, 3) := by decide +kernel
theorem dX8_read_104 : decode cX8_read 104 = .ok (.ireturn, 1) := by decide +kernel
theorem dX8_plan_0 : decode cX8_plan 0 = .ok (.iload_n 1, 1) := by decide +kernel
theorem dX8_plan_1 : decode cX8_plan 1 = .ok (.i2l, 1) := by decide +kernel
theorem dX8_plan_2 : decode cX8_plan 2 = .ok (.ldc2_w 203, 3) := by decide +kernel
theorem dX8_plan_5 : decode cX8_plan 5 = .ok (.ldc2_w 133, 3) := by decide +kernel
theorem dX8_plan_8 : decode cX8_plan 8 = .ok (.invokestatic 75, 3) := by decide +kernel
theorem dX8_plan_11 : decode cX8_plan 11 = .ok (.ifCond .ne 5, 3) := by decide +kernel
theorem dX8_plan_14 : decode cX8_plan 14 = .ok (.iconst (-1), 1) := by decide +kernel
theorem dX8_plan_15 : decode cX8_plan 15 = .ok (.ireturn, 1) := by decide +kernel
theorem dX8_plan_16 : decode cX8_plan 16 = .ok (.iconst 0, 1) := by decide +kernel
theorem dX8_plan_17 : decode cX8_plan 17 = .ok (.istore_n 2, 1) := by decide +kernel
theorem dX8_plan_18 : decode cX8_plan 18 = .ok (.iload_n 2, 1) := by decide +kernel
theorem dX8_plan_19 : decode cX8_plan 19 = .ok (.aload_n 0, 1) := by decide +kernel
theorem dX8_plan_20 : decode cX8_plan 20 = .ok (.getfield 71, 3) := by decide +kernel
theorem dX8_plan_23 : decode cX8_plan 23 = .ok (.if_icmp .ge 92, 3) := by decide +kernel
theorem dX8_plan_26 : decode cX8_plan 26 = .ok (.iconst 0, 1) := by decide +kernel
theorem dX8_plan_27 : decode cX8_plan 27 = .ok (.istore_n 3, 1) := by decide +kernel
theorem dX8_plan_28 : decode cX8_plan 28 = .ok (.iload_n 3, 1) := by decide +kernel
theorem dX8_plan_29 : decode cX8_plan 29 = .ok (.aload_n 0, 1) := by decide +kernel
theorem dX8_plan_30 : decode cX8_plan 30 = .ok (.getfield 83, 3) := by decide +kernel
theorem dX8_plan_33 : decode cX8_plan 33 = .ok (.if_icmp .ge 76, 3) := by decide +kernel
theorem dX8_plan_36 : decode cX8_plan 36 = .ok (.aload_n 0, 1) := by decide +kernel
theorem dX8_plan_37 : decode cX8_plan 37 = .ok (.getfield 43, 3) := by decide +kernel
theorem dX8_plan_40 : decode cX8_plan 40 = .ok (.bipush 10, 2) := by decide +kernel
theorem dX8_plan_42 : decode cX8_plan 42 = .ok (.iload_n 2, 1) := by decide +kernel
theorem dX8_plan_43 : decode cX8_plan 43 = .ok (.imul, 1) := by decide +kernel
theorem dX8_plan_44 : decode cX8_plan 44 = .ok (.iload_n 3, 1) := by decide +kernel
theorem dX8_plan_45 : decode cX8_plan 45 = .ok (.iadd, 1) := by decide +kernel
theorem dX8_plan_46 : decode cX8_plan 46 = .ok (.aload_n 0, 1) := by decide +kernel
theorem dX8_plan_47 : decode cX8_plan 47 = .ok (.iload_n 3, 1) := by decide +kernel
theorem dX8_plan_48 : decode cX8_plan 48 = .ok (.iload_n 2, 1) := by decide +kernel
theorem dX8_plan_49 : decode cX8_plan 49 = .ok (.invokevirtual 191, 3) := by decide +kernel
theorem dX8_plan_52 : decode cX8_plan 52 = .ok (.ifCond .eq 7, 3) := by decide +kernel
theorem dX8_plan_55 : decode cX8_plan 55 = .ok (.iconst 1, 1) := by decide +kernel
theorem dX8_plan_56 : decode cX8_plan 56 = .ok (.goto 4, 3) := by decide +kernel
theorem dX8_plan_59 : decode cX8_plan 59 = .ok (.iconst 0, 1) := by decide +kernel
theorem dX8_plan_60 : decode cX8_plan 60 = .ok (.iastore, 1) := by decide +kernel
theorem dX8_plan_61 : decode cX8_plan 61 = .ok (.aload_n 0, 1) := by decide +kernel
theorem dX8_plan_62 : decode cX8_plan 62 = .ok (.getfield 46, 3) := by decide +kernel
theorem dX8_plan_65 : decode cX8_plan 65 = .ok (.bipush 10, 2) := by decide +kernel
theorem dX8_plan_67 : decode cX8_plan 67 = .ok (.iload_n 2, 1) := by decide +kernel
theorem dX8_plan_68 : decode cX8_plan 68 = .ok (.imul, 1) := by decide +kernel
theorem dX8_plan_69 : decode cX8_plan 69 = .ok (.iload_n 3, 1) := by decide +kernel
theorem dX8_plan_70 : decode cX8_plan 70 = .ok (.iadd, 1) := by decide +kernel
theorem dX8_plan_71 : decode cX8_plan 71 = .ok (.aload_n 0, 1) := by decide +kernel
theorem dX8_plan_72 : decode cX8_plan 72 = .ok (.iload_n 3, 1) := by decide +kernel
theorem dX8_plan_73 : decode cX8_plan 73 = .ok (.iload_n 2, 1) := by decide +kernel
theorem dX8_plan_74 : decode cX8_plan 74 = .ok (.invokevirtual 182, 3) := by decide +kernel
theorem dX8_plan_77 : decode cX8_plan 77 = .ok (.ifCond .eq 24, 3) := by decide +kernel
theorem dX8_plan_80 : decode cX8_plan 80 = .ok (.aload_n 0, 1) := by decide +kernel
theorem dX8_plan_81 : decode cX8_plan 81 = .ok (.getfield 28, 3) := by decide +kernel
theorem dX8_plan_84 : decode cX8_plan 84 = .ok (.bipush 8, 2) := by decide +kernel
theorem dX8_plan_86 : decode cX8_plan 86 = .ok (.iload_n 3, 1) := by decide +kernel
theorem dX8_plan_87 : decode cX8_plan 87 = .ok (.imul, 1) := by decide +kernel
theorem dX8_plan_88 : decode cX8_plan 88 = .ok (.iconst 1, 1) := by decide +kernel
theorem dX8_plan_89 : decode cX8_plan 89 = .ok (.iadd, 1) := by decide +kernel
theorem dX8_plan_90 : decode cX8_plan 90 = .ok (.iaload, 1) := by decide +kernel
theorem dX8_plan_91 : decode cX8_plan 91 = .ok (.aload_n 0, 1) := by decide +kernel
theorem dX8_plan_92 : decode cX8_plan 92 = .ok (.iload_n 3, 1) := by decide +kernel
theorem dX8_plan_93 : decode cX8_plan 93 = .ok (.iload_n 2, 1) := by decide +kernel
theorem dX8_plan_94 : decode cX8_plan 94 = .ok (.invokevirtual 197, 3) := by decide +kernel
theorem dX8_plan_97 : decode cX8_plan 97 = .ok (.isub, 1) := by decide +kernel
theorem dX8_plan_98 : decode cX8_plan 98 = .ok (.goto 4, 3) := by decide +kernel
theorem dX8_plan_101 : decode cX8_plan 101 = .ok (.iconst 0, 1) := by decide +kernel
theorem dX8_plan_102 : decode cX8_plan 102 = .ok (.iastore, 1) := by decide +kernel
theorem dX8_plan_103 : decode cX8_plan 103 = .ok (.iinc 3 1, 3) := by decide +kernel
theorem dX8_plan_106 : decode cX8_plan 106 = .ok (.goto (-78), 3) := by decide +kernel
theorem dX8_plan_109 : decode cX8_plan 109 = .ok (.iinc 2 1, 3) := by decide +kernel
theorem dX8_plan_112 : decode cX8_plan 112 = .ok (.goto (-94), 3) := by decide +kernel
theorem dX8_plan_115 : decode cX8_plan 115 = .ok (.aload_n 0, 1) := by decide +kernel
theorem dX8_plan_116 : decode cX8_plan 116 = .ok (.invokevirtual 205, 3) := by decide +kernel
theorem dX8_plan_119 : decode cX8_plan 119 = .ok (.aload_n 0, 1) := by decide +kernel
theorem dX8_plan_120 : decode cX8_plan 120 = .ok (.iload_n 1, 1) := by decide +kernel
theorem dX8_plan_121 : decode cX8_plan 121 = .ok (.invokevirtual 208, 3) := by decide +kernel
theorem dX8_plan_124 : decode cX8_plan 124 = .ok (.ireturn, 1) := by decide +kernel
theorem dX8_nearest_0 : decode cX8_nearest 0 = .ok (.aload_n 0, 1) := by decide +kernel
theorem dX8_nearest_1 : decode cX8_nearest 1 = .ok (.iload_n 1, 1) := by decide +kernel
theorem dX8_nearest_2 : decode cX8_nearest 2 = .ok (.invokevirtual 94, 3) := by decide +kernel
theorem dX8_nearest_5 : decode cX8_nearest 5 = .ok (.ifCond .eq 13, 3) := by decide +kernel
theorem dX8_nearest_8 : decode cX8_nearest 8 = .ok (.iload_n 2, 1) := by decide +kernel
theorem dX8_nearest_9 : decode cX8_nearest 9 = .ok (.i2l, 1) := by decide +kernel
theorem dX8_nearest_10 : decode cX8_nearest 10 = .ok (.lconst 0, 1) := by decide +kernel
theorem dX8_nearest_11 : decode cX8_nearest 11 = .ok (.lconst 1, 1) := by decide +kernel
theorem dX8_nearest_12 : decode cX8_nearest 12 = .ok (.invokestatic 75, 3) := by decide +kernel
theorem dX8_nearest_15 : decode cX8_nearest 15 = .ok (.ifCond .ne 5, 3) := by decide +kernel
theorem dX8_nearest_18 : decode cX8_nearest 18 = .ok (.iconst (-1), 1) := by decide +kernel
theorem dX8_nearest_19 : decode cX8_nearest 19 = .ok (.ireturn, 1) := by decide +kernel
theorem dX8_nearest_20 : decode cX8_nearest 20 = .ok (.bipush (-4), 2) := by decide +kernel
theorem dX8_nearest_22 : decode cX8_nearest 22 = .ok (.istore_n 3, 1) := by decide +kernel
theorem dX8_nearest_23 : decode cX8_nearest 23 = .ok (.iconst 0, 1) := by decide +kernel
theorem dX8_nearest_24 : decode cX8_nearest 24 = .ok (.istore 4, 2) := by decide +kernel
theorem dX8_nearest_26 : decode cX8_nearest 26 = .ok (.iconst 0, 1) := by decide +kernel
theorem dX8_nearest_27 : decode cX8_nearest 27 = .ok (.istore 5, 2) := by decide +kernel
theorem dX8_nearest_29 : decode cX8_nearest 29 = .ok (.iload 5, 2) := by decide +kernel
theorem dX8_nearest_31 : decode cX8_nearest 31 = .ok (.aload_n 0, 1) := by decide +kernel
theorem dX8_nearest_32 : decode cX8_nearest 32 = .ok (.getfield 83, 3) := by decide +kernel
theorem dX8_nearest_35 : decode cX8_nearest 35 = .ok (.if_icmp .ge 100, 3) := by decide +kernel
theorem dX8_nearest_38 : decode cX8_nearest 38 = .ok (.iconst 0, 1) := by decide +kernel
theorem dX8_nearest_39 : decode cX8_nearest 39 = .ok (.istore 6, 2) := by decide +kernel
theorem dX8_nearest_41 : decode cX8_nearest 41 = .ok (.iconst 0, 1) := by decide +kernel
theorem dX8_nearest_42 : decode cX8_nearest 42 = .ok (.istore 7, 2) := by decide +kernel
theorem dX8_nearest_44 : decode cX8_nearest 44 = .ok (.iload 7, 2) := by decide +kernel
theorem dX8_nearest_46 : decode cX8_nearest 46 = .ok (.aload_n 0, 1) := by decide +kernel
theorem dX8_nearest_47 : decode cX8_nearest 47 = .ok (.iload 5, 2) := by decide +kernel
theorem dX8_nearest_49 : decode cX8_nearest 49 = .ok (.invokevirtual 179, 3) := by decide +kernel
theorem dX8_nearest_52 : decode cX8_nearest 52 = .ok (.if_icmp .ge 49, 3) := by decide +kernel
theorem dX8_nearest_55 : decode cX8_nearest 55 = .ok (.aload_n 0, 1) := by decide +kernel
theorem dX8_nearest_56 : decode cX8_nearest 56 = .ok (.iload 5, 2) := by decide +kernel
theorem dX8_nearest_58 : decode cX8_nearest 58 = .ok (.iload_n 1, 1) := by decide +kernel
theorem dX8_nearest_59 : decode cX8_nearest 59 = .ok (.invokevirtual 182, 3) := by decide +kernel
theorem dX8_nearest_62 : decode cX8_nearest 62 = .ok (.ifCond .eq 39, 3) := by decide +kernel
theorem dX8_nearest_65 : decode cX8_nearest 65 = .ok (.iload 6, 2) := by decide +kernel
theorem dX8_nearest_67 : decode cX8_nearest 67 = .ok (.aload_n 0, 1) := by decide +kernel
theorem dX8_nearest_68 : decode cX8_nearest 68 = .ok (.iload_n 1, 1) := by decide +kernel
theorem dX8_nearest_69 : decode cX8_nearest 69 = .ok (.iload 7, 2) := by decide +kernel
theorem dX8_nearest_71 : decode cX8_nearest 71 = .ok (.iadd, 1) := by decide +kernel
theorem dX8_nearest_72 : decode cX8_nearest 72 = .ok (.invokevirtual 104, 3) := by decide +kernel
theorem dX8_nearest_75 : decode cX8_nearest 75 = .ok (.aload_n 0, 1) := by decide +kernel
theorem dX8_nearest_76 : decode cX8_nearest 76 = .ok (.getfield 7, 3) := by decide +kernel
theorem dX8_nearest_79 : decode cX8_nearest 79 = .ok (.aload_n 0, 1) := by decide +kernel
theorem dX8_nearest_80 : decode cX8_nearest 80 = .ok (.iload 5, 2) := by decide +kernel
theorem dX8_nearest_82 : decode cX8_nearest 82 = .ok (.iload 7, 2) := by decide +kernel
theorem dX8_nearest_84 : decode cX8_nearest 84 = .ok (.invokevirtual 185, 3) := by decide +kernel
theorem dX8_nearest_87 : decode cX8_nearest 87 = .ok (.iaload, 1) := by decide +kernel
theorem dX8_nearest_88 : decode cX8_nearest 88 = .ok (.ixor, 1) := by decide +kernel
theorem dX8_nearest_89 : decode cX8_nearest 89 = .ok (.invokestatic 108, 3) := by decide +kernel
theorem dX8_nearest_92 : decode cX8_nearest 92 = .ok (.iadd, 1) := by decide +kernel
theorem dX8_nearest_93 : decode cX8_nearest 93 = .ok (.istore 6, 2) := by decide +kernel
theorem dX8_nearest_95 : decode cX8_nearest 95 = .ok (.iinc 7 1, 3) := by decide +kernel
theorem dX8_nearest_98 : decode cX8_nearest 98 = .ok (.goto (-54), 3) := by decide +kernel
theorem dX8_nearest_101 : decode cX8_nearest 101 = .ok (.aload_n 0, 1) := by decide +kernel
theorem dX8_nearest_102 : decode cX8_nearest 102 = .ok (.iload 5, 2) := by decide +kernel
theorem dX8_nearest_104 : decode cX8_nearest 104 = .ok (.iload_n 1, 1) := by decide +kernel
theorem dX8_nearest_105 : decode cX8_nearest 105 = .ok (.invokevirtual 182, 3) := by decide +kernel
theorem dX8_nearest_108 : decode cX8_nearest 108 = .ok (.ifCond .eq 21, 3) := by decide +kernel
theorem dX8_nearest_111 : decode cX8_nearest 111 = .ok (.iload_n 3, 1) := by decide +kernel
theorem dX8_nearest_112 : decode cX8_nearest 112 = .ok (.ifCond .lt 10, 3) := by decide +kernel
theorem dX8_nearest_115 : decode cX8_nearest 115 = .ok (.iload 6, 2) := by decide +kernel
theorem dX8_nearest_117 : decode cX8_nearest 117 = .ok (.iload 4, 2) := by decide +kernel
theorem dX8_nearest_119 : decode cX8_nearest 119 = .ok (.if_icmp .ge 10, 3) := by decide +kernel
theorem dX8_nearest_122 : decode cX8_nearest 122 = .ok (.iload 5, 2) := by decide +kernel
theorem dX8_nearest_124 : decode cX8_nearest 124 = .ok (.istore_n 3, 1) := by decide +kernel
theorem dX8_nearest_125 : decode cX8_nearest 125 = .ok (.iload 6, 2) := by decide +kernel
theorem dX8_nearest_127 : decode cX8_nearest 127 = .ok (.istore 4, 2) := by decide +kernel
theorem dX8_nearest_129 : decode cX8_nearest 129 = .ok (.iinc 5 1, 3) := by decide +kernel
theorem dX8_nearest_132 : decode cX8_nearest 132 = .ok (.goto (-103), 3) := by decide +kernel
theorem dX8_nearest_135 : decode cX8_nearest 135 = .ok (.iload_n 3, 1) := by decide +kernel
theorem dX8_nearest_136 : decode cX8_nearest 136 = .ok (.ifCond .ge 8, 3) := by decide +kernel
theorem dX8_nearest_139 : decode cX8_nearest 139 = .ok (.bipush (-4), 2) := by decide +kernel
theorem dX8_nearest_141 : decode cX8_nearest 141 = .ok (.goto 13, 3) := by decide +kernel
theorem dX8_nearest_144 : decode cX8_nearest 144 = .ok (.iload_n 2, 1) := by decide +kernel
theorem dX8_nearest_145 : decode cX8_nearest 145 = .ok (.ifCond .ne 7, 3) := by decide +kernel
theorem dX8_nearest_148 : decode cX8_nearest 148 = .ok (.iload_n 3, 1) := by decide +kernel
theorem dX8_nearest_149 : decode cX8_nearest 149 = .ok (.goto 5, 3) := by decide +kernel
theorem dX8_nearest_152 : decode cX8_nearest 152 = .ok (.iload 4, 2) := by decide +kernel
theorem dX8_nearest_154 : decode cX8_nearest 154 = .ok (.ireturn, 1) := by decide +kernel
theorem dX8_write_0 : decode cX8_write 0 = .ok (.aload_n 0, 1) := by decide +kernel
theorem dX8_write_1 : decode cX8_write 1 = .ok (.iload_n 1, 1) := by decide +kernel
theorem dX8_write_2 : decode cX8_write 2 = .ok (.invokevirtual 174, 3) := by decide +kernel
theorem dX8_write_5 : decode cX8_write 5 = .ok (.ifCond .eq 11, 3) := by decide +kernel
theorem dX8_write_8 : decode cX8_write 8 = .ok (.aload_n 0, 1) := by decide +kernel
theorem dX8_write_9 : decode cX8_write 9 = .ok (.iload_n 2, 1) := by decide +kernel
theorem dX8_write_10 : decode cX8_write 10 = .ok (.invokevirtual 94, 3) := by decide +kernel
theorem dX8_write_13 : decode cX8_write 13 = .ok (.ifCond .ne 5, 3) := by decide +kernel
theorem dX8_write_16 : decode cX8_write 16 = .ok (.iconst (-1), 1) := by decide +kernel
theorem dX8_write_17 : decode cX8_write 17 = .ok (.ireturn, 1) := by decide +kernel
theorem dX8_write_18 : decode cX8_write 18 = .ok (.aload_n 0, 1) := by decide +kernel
theorem dX8_write_19 : decode cX8_write 19 = .ok (.iload_n 1, 1) := by decide +kernel
theorem dX8_write_20 : decode cX8_write 20 = .ok (.iload_n 2, 1) := by decide +kernel
theorem dX8_write_21 : decode cX8_write 21 = .ok (.invokevirtual 191, 3) := by decide +kernel
theorem dX8_write_24 : decode cX8_write 24 = .ok (.ifCond .ne 6, 3) := by decide +kernel
theorem dX8_write_27 : decode cX8_write 27 = .ok (.bipush (-2), 2) := by decide +kernel
theorem dX8_write_29 : decode cX8_write 29 = .ok (.ireturn, 1) := by decide +kernel
theorem dX8_write_30 : decode cX8_write 30 = .ok (.iconst 0, 1) := by decide +kernel
theorem dX8_write_31 : decode cX8_write 31 = .ok (.istore_n 3, 1) := by decide +kernel
theorem dX8_write_32 : decode cX8_write 32 = .ok (.iconst 0, 1) := by decide +kernel
theorem dX8_write_33 : decode cX8_write 33 = .ok (.istore 4, 2) := by decide +kernel
theorem dX8_write_35 : decode cX8_write 35 = .ok (.iload 4, 2) := by decide +kernel
theorem dX8_write_37 : decode cX8_write 37 = .ok (.aload_n 0, 1) := by decide +kernel
theorem dX8_write_38 : decode cX8_write 38 = .ok (.iload_n 1, 1) := by decide +kernel
theorem dX8_write_39 : decode cX8_write 39 = .ok (.invokevirtual 179, 3) := by decide +kernel
theorem dX8_write_42 : decode cX8_write 42 = .ok (.if_icmp .ge 32, 3) := by decide +kernel
theorem dX8_write_45 : decode cX8_write 45 = .ok (.iload_n 3, 1) := by decide +kernel
theorem dX8_write_46 : decode cX8_write 46 = .ok (.aload_n 0, 1) := by decide +kernel
theorem dX8_write_47 : decode cX8_write 47 = .ok (.iload_n 2, 1) := by decide +kernel
theorem dX8_write_48 : decode cX8_write 48 = .ok (.iload 4, 2) := by decide +kernel
theorem dX8_write_50 : decode cX8_write 50 = .ok (.iadd, 1) := by decide +kernel
theorem dX8_write_51 : decode cX8_write 51 = .ok (.aload_n 0, 1) := by decide +kernel
theorem dX8_write_52 : decode cX8_write 52 = .ok (.getfield 7, 3) := by decide +kernel
theorem dX8_write_55 : decode cX8_write 55 = .ok (.aload_n 0, 1) := by decide +kernel
theorem dX8_write_56 : decode cX8_write 56 = .ok (.iload_n 1, 1) := by decide +kernel
theorem dX8_write_57 : decode cX8_write 57 = .ok (.iload 4, 2) := by decide +kernel
theorem dX8_write_59 : decode cX8_write 59 = .ok (.invokevirtual 185, 3) := by decide +kernel
theorem dX8_write_62 : decode cX8_write 62 = .ok (.iaload, 1) := by decide +kernel
theorem dX8_write_63 : decode cX8_write 63 = .ok (.invokevirtual 124, 3) := by decide +kernel
theorem dX8_write_66 : decode cX8_write 66 = .ok (.iadd, 1) := by decide +kernel
theorem dX8_write_67 : decode cX8_write 67 = .ok (.istore_n 3, 1) := by decide +kernel
theorem dX8_write_68 : decode cX8_write 68 = .ok (.iinc 4 1, 3) := by decide +kernel
theorem dX8_write_71 : decode cX8_write 71 = .ok (.goto (-36), 3) := by decide +kernel
theorem dX8_write_74 : decode cX8_write 74 = .ok (.iload_n 3, 1) := by decide +kernel
theorem dX8_write_75 : decode cX8_write 75 = .ok (.ireturn, 1) := by decide +kernel
theorem dX8_share_0 : decode cX8_share 0 = .ok (.aload_n 0, 1) := by decide +kernel
theorem dX8_share_1 : decode cX8_share 1 = .ok (.iload_n 1, 1) := by decide +kernel
theorem dX8_share_2 : decode cX8_share 2 = .ok (.invokevirtual 174, 3) := by decide +kernel
theorem dX8_share_5 : decode cX8_share 5 = .ok (.ifCond .eq 23, 3) := by decide +kernel
theorem dX8_share_8 : decode cX8_share 8 = .ok (.aload_n 0, 1) := by decide +kernel
theorem dX8_share_9 : decode cX8_share 9 = .ok (.iload_n 2, 1) := by decide +kernel
theorem dX8_share_10 : decode cX8_share 10 = .ok (.invokevirtual 94, 3) := by decide +kernel
theorem dX8_share_13 : decode cX8_share 13 = .ok (.ifCond .eq 15, 3) := by decide +kernel
theorem dX8_share_16 : decode cX8_share 16 = .ok (.iload_n 3, 1) := by decide +kernel
theorem dX8_share_17 : decode cX8_share 17 = .ok (.i2l, 1) := by decide +kernel
theorem dX8_share_18 : decode cX8_share 18 = .ok (.lconst 0, 1) := by decide +kernel
theorem dX8_share_19 : decode cX8_share 19 = .ok (.ldc2_w 86, 3) := by decide +kernel
theorem dX8_share_22 : decode cX8_share 22 = .ok (.invokestatic 75, 3) := by decide +kernel
theorem dX8_share_25 : decode cX8_share 25 = .ok (.ifCond .ne 5, 3) := by decide +kernel
theorem dX8_share_28 : decode cX8_share 28 = .ok (.iconst (-1), 1) := by decide +kernel
theorem dX8_share_29 : decode cX8_share 29 = .ok (.ireturn, 1) := by decide +kernel
theorem dX8_share_30 : decode cX8_share 30 = .ok (.aload_n 0, 1) := by decide +kernel
theorem dX8_share_31 : decode cX8_share 31 = .ok (.iload_n 1, 1) := by decide +kernel
theorem dX8_share_32 : decode cX8_share 32 = .ok (.iload_n 2, 1) := by decide +kernel
theorem dX8_share_33 : decode cX8_share 33 = .ok (.invokevirtual 182, 3) := by decide +kernel
theorem dX8_share_36 : decode cX8_share 36 = .ok (.ifCond .ne 6, 3) := by decide +kernel
theorem dX8_share_39 : decode cX8_share 39 = .ok (.bipush (-2), 2) := by decide +kernel
theorem dX8_share_41 : decode cX8_share 41 = .ok (.ireturn, 1) := by decide +kernel
theorem dX8_share_42 : decode cX8_share 42 = .ok (.aload_n 0, 1) := by decide +kernel
theorem dX8_share_43 : decode cX8_share 43 = .ok (.getfield 28, 3) := by decide +kernel
theorem dX8_share_46 : decode cX8_share 46 = .ok (.bipush 8, 2) := by decide +kernel
theorem dX8_share_48 : decode cX8_share 48 = .ok (.iload_n 1, 1) := by decide +kernel
theorem dX8_share_49 : decode cX8_share 49 = .ok (.imul, 1) := by decide +kernel
theorem dX8_share_50 : decode cX8_share 50 = .ok (.iconst 1, 1) := by decide +kernel
theorem dX8_share_51 : decode cX8_share 51 = .ok (.iadd, 1) := by decide +kernel
theorem dX8_share_52 : decode cX8_share 52 = .ok (.iaload, 1) := by decide +kernel
theorem dX8_share_53 : decode cX8_share 53 = .ok (.aload_n 0, 1) := by decide +kernel
theorem dX8_share_54 : decode cX8_share 54 = .ok (.iload_n 1, 1) := by decide +kernel
theorem dX8_share_55 : decode cX8_share 55 = .ok (.iload_n 2, 1) := by decide +kernel
theorem dX8_share_56 : decode cX8_share 56 = .ok (.invokevirtual 197, 3) := by decide +kernel
theorem dX8_share_59 : decode cX8_share 59 = .ok (.isub, 1) := by decide +kernel
theorem dX8_share_60 : decode cX8_share 60 = .ok (.istore 4, 2) := by decide +kernel
theorem dX8_share_62 : decode cX8_share 62 = .ok (.iload 4, 2) := by decide +kernel
theorem dX8_share_64 : decode cX8_share 64 = .ok (.ifCond .ge 6, 3) := by decide +kernel
theorem dX8_share_67 : decode cX8_share 67 = .ok (.bipush (-2), 2) := by decide +kernel
theorem dX8_share_69 : decode cX8_share 69 = .ok (.ireturn, 1) := by decide +kernel
theorem dX8_share_70 : decode cX8_share 70 = .ok (.aload_n 0, 1) := by decide +kernel
theorem dX8_share_71 : decode cX8_share 71 = .ok (.iload_n 1, 1) := by decide +kernel
theorem dX8_share_72 : decode cX8_share 72 = .ok (.invokevirtual 179, 3) := by decide +kernel
theorem dX8_share_75 : decode cX8_share 75 = .ok (.istore 5, 2) := by decide +kernel
theorem dX8_share_77 : decode cX8_share 77 = .ok (.iconst 0, 1) := by decide +kernel
theorem dX8_share_78 : decode cX8_share 78 = .ok (.istore 6, 2) := by decide +kernel
theorem dX8_share_80 : decode cX8_share 80 = .ok (.iconst 0, 1) := by decide +kernel
theorem dX8_share_81 : decode cX8_share 81 = .ok (.istore 7, 2) := by decide +kernel
theorem dX8_share_83 : decode cX8_share 83 = .ok (.iload 7, 2) := by decide +kernel
theorem dX8_share_85 : decode cX8_share 85 = .ok (.iload 5, 2) := by decide +kernel
theorem dX8_share_87 : decode cX8_share 87 = .ok (.if_icmp .ge 72, 3) := by decide +kernel
theorem dX8_share_90 : decode cX8_share 90 = .ok (.aload_n 0, 1) := by decide +kernel
theorem dX8_share_91 : decode cX8_share 91 = .ok (.iload_n 2, 1) := by decide +kernel
theorem dX8_share_92 : decode cX8_share 92 = .ok (.iload 7, 2) := by decide +kernel
theorem dX8_share_94 : decode cX8_share 94 = .ok (.iadd, 1) := by decide +kernel
theorem dX8_share_95 : decode cX8_share 95 = .ok (.aload_n 0, 1) := by decide +kernel
theorem dX8_share_96 : decode cX8_share 96 = .ok (.iload_n 1, 1) := by decide +kernel
theorem dX8_share_97 : decode cX8_share 97 = .ok (.iload 7, 2) := by decide +kernel
theorem dX8_share_99 : decode cX8_share 99 = .ok (.invokevirtual 185, 3) := by decide +kernel
theorem dX8_share_102 : decode cX8_share 102 = .ok (.invokevirtual 194, 3) := by decide +kernel
theorem dX8_share_105 : decode cX8_share 105 = .ok (.iload 4, 2) := by decide +kernel
theorem dX8_share_107 : decode cX8_share 107 = .ok (.iload 5, 2) := by decide +kernel
theorem dX8_share_109 : decode cX8_share 109 = .ok (.idiv, 1) := by decide +kernel
theorem dX8_share_110 : decode cX8_share 110 = .ok (.iadd, 1) := by decide +kernel
theorem dX8_share_111 : decode cX8_share 111 = .ok (.iload 7, 2) := by decide +kernel
theorem dX8_share_113 : decode cX8_share 113 = .ok (.iload 4, 2) := by decide +kernel
theorem dX8_share_115 : decode cX8_share 115 = .ok (.iload 5, 2) := by decide +kernel
theorem dX8_share_117 : decode cX8_share 117 = .ok (.irem, 1) := by decide +kernel
theorem dX8_share_118 : decode cX8_share 118 = .ok (.if_icmp .ge 7, 3) := by decide +kernel
theorem dX8_share_121 : decode cX8_share 121 = .ok (.iconst 1, 1) := by decide +kernel
theorem dX8_share_122 : decode cX8_share 122 = .ok (.goto 4, 3) := by decide +kernel
theorem dX8_share_125 : decode cX8_share 125 = .ok (.iconst 0, 1) := by decide +kernel
theorem dX8_share_126 : decode cX8_share 126 = .ok (.iadd, 1) := by decide +kernel
theorem dX8_share_127 : decode cX8_share 127 = .ok (.istore 8, 2) := by decide +kernel
theorem dX8_share_129 : decode cX8_share 129 = .ok (.iload 6, 2) := by decide +kernel
theorem dX8_share_131 : decode cX8_share 131 = .ok (.aload_n 0, 1) := by decide +kernel
theorem dX8_share_132 : decode cX8_share 132 = .ok (.getfield 13, 3) := by decide +kernel
theorem dX8_share_135 : decode cX8_share 135 = .ok (.iload_n 2, 1) := by decide +kernel
theorem dX8_share_136 : decode cX8_share 136 = .ok (.iload 7, 2) := by decide +kernel
theorem dX8_share_138 : decode cX8_share 138 = .ok (.iadd, 1) := by decide +kernel
theorem dX8_share_139 : decode cX8_share 139 = .ok (.iaload, 1) := by decide +kernel
theorem dX8_share_140 : decode cX8_share 140 = .ok (.iload_n 3, 1) := by decide +kernel
theorem dX8_share_141 : decode cX8_share 141 = .ok (.if_icmp .ne 8, 3) := by decide +kernel
theorem dX8_share_144 : decode cX8_share 144 = .ok (.iload 8, 2) := by decide +kernel
theorem dX8_share_146 : decode cX8_share 146 = .ok (.goto 4, 3) := by decide +kernel
theorem dX8_share_149 : decode cX8_share 149 = .ok (.iconst 0, 1) := by decide +kernel
theorem dX8_share_150 : decode cX8_share 150 = .ok (.iadd, 1) := by decide +kernel
theorem dX8_share_151 : decode cX8_share 151 = .ok (.istore 6, 2) := by decide +kernel
theorem dX8_share_153 : decode cX8_share 153 = .ok (.iinc 7 1, 3) := by decide +kernel
theorem dX8_share_156 : decode cX8_share 156 = .ok (.goto (-73), 3) := by decide +kernel
theorem dX8_share_159 : decode cX8_share 159 = .ok (.iload 6, 2) := by decide +kernel
theorem dX8_share_161 : decode cX8_share 161 = .ok (.ireturn, 1) := by decide +kernel
theorem dX8_power_0 : decode cX8_power 0 = .ok (.lconst 1, 1) := by decide +kernel
theorem dX8_power_1 : decode cX8_power 1 = .ok (.lstore_n 2, 1) := by decide +kernel
theorem dX8_power_2 : decode cX8_power 2 = .ok (.iconst 0, 1) := by decide +kernel
theorem dX8_power_3 : decode cX8_power 3 = .ok (.istore 4, 2) := by decide +kernel
theorem dX8_power_5 : decode cX8_power 5 = .ok (.iload 4, 2) := by decide +kernel
theorem dX8_power_7 : decode cX8_power 7 = .ok (.iload_n 1, 1) := by decide +kernel
theorem dX8_power_8 : decode cX8_power 8 = .ok (.if_icmp .ge 14, 3) := by decide +kernel
theorem dX8_power_11 : decode cX8_power 11 = .ok (.lload_n 2, 1) := by decide +kernel
theorem dX8_power_12 : decode cX8_power 12 = .ok (.iload_n 0, 1) := by decide +kernel
theorem dX8_power_13 : decode cX8_power 13 = .ok (.i2l, 1) := by decide +kernel
theorem dX8_power_14 : decode cX8_power 14 = .ok (.lmul, 1) := by decide +kernel
theorem dX8_power_15 : decode cX8_power 15 = .ok (.lstore_n 2, 1) := by decide +kernel
theorem dX8_power_16 : decode cX8_power 16 = .ok (.iinc 4 1, 3) := by decide +kernel
theorem dX8_power_19 : decode cX8_power 19 = .ok (.goto (-14), 3) := by decide +kernel
theorem dX8_power_22 : decode cX8_power 22 = .ok (.lload_n 2, 1) := by decide +kernel
theorem dX8_power_23 : decode cX8_power 23 = .ok (.lreturn, 1) := by decide +kernel
theorem dX8_findOdds_0 : decode cX8_findOdds 0 = .ok (.iconst 0, 1) := by decide +kernel
theorem dX8_findOdds_1 : decode cX8_findOdds 1 = .ok (.istore_n 3, 1) := by decide +kernel
theorem dX8_findOdds_2 : decode cX8_findOdds 2 = .ok (.iload_n 3, 1) := by decide +kernel
theorem dX8_findOdds_3 : decode cX8_findOdds 3 = .ok (.bipush 26, 2) := by decide +kernel
theorem dX8_findOdds_5 : decode cX8_findOdds 5 = .ok (.if_icmp .ge 16, 3) := by decide +kernel
theorem dX8_findOdds_8 : decode cX8_findOdds 8 = .ok (.aload_n 0, 1) := by decide +kernel
theorem dX8_findOdds_9 : decode cX8_findOdds 9 = .ok (.getfield 49, 3) := by decide +kernel
theorem dX8_findOdds_12 : decode cX8_findOdds 12 = .ok (.iload_n 3, 1) := by decide +kernel
theorem dX8_findOdds_13 : decode cX8_findOdds 13 = .ok (.lconst 0, 1) := by decide +kernel
theorem dX8_findOdds_14 : decode cX8_findOdds 14 = .ok (.lastore, 1) := by decide +kernel
theorem dX8_findOdds_15 : decode cX8_findOdds 15 = .ok (.iinc 3 1, 3) := by decide +kernel
theorem dX8_findOdds_18 : decode cX8_findOdds 18 = .ok (.goto (-16), 3) := by decide +kernel
theorem dX8_findOdds_21 : decode cX8_findOdds 21 = .ok (.iconst 0, 1) := by decide +kernel
theorem dX8_findOdds_22 : decode cX8_findOdds 22 = .ok (.istore_n 3, 1) := by decide +kernel
theorem dX8_findOdds_23 : decode cX8_findOdds 23 = .ok (.iload_n 3, 1) := by decide +kernel
theorem dX8_findOdds_24 : decode cX8_findOdds 24 = .ok (.ldc 211, 2) := by decide +kernel
theorem dX8_findOdds_26 : decode cX8_findOdds 26 = .ok (.if_icmp .ge 79, 3) := by decide +kernel
theorem dX8_findOdds_29 : decode cX8_findOdds 29 = .ok (.iload_n 3, 1) := by decide +kernel
theorem dX8_findOdds_30 : decode cX8_findOdds 30 = .ok (.invokestatic 108, 3) := by decide +kernel
theorem dX8_findOdds_33 : decode cX8_findOdds 33 = .ok (.istore 4, 2) := by decide +kernel
theorem dX8_findOdds_35 : decode cX8_findOdds 35 = .ok (.iload_n 2, 1) := by decide +kernel
theorem dX8_findOdds_36 : decode cX8_findOdds 36 = .ok (.iload 4, 2) := by decide +kernel
theorem dX8_findOdds_38 : decode cX8_findOdds 38 = .ok (.invokestatic 212, 3) := by decide +kernel
theorem dX8_findOdds_41 : decode cX8_findOdds 41 = .ok (.bipush 16, 2) := by decide +kernel
theorem dX8_findOdds_43 : decode cX8_findOdds 43 = .ok (.iload_n 2, 1) := by decide +kernel
theorem dX8_findOdds_44 : decode cX8_findOdds 44 = .ok (.isub, 1) := by decide +kernel
theorem dX8_findOdds_45 : decode cX8_findOdds 45 = .ok (.bipush 15, 2) := by decide +kernel
theorem dX8_findOdds_47 : decode cX8_findOdds 47 = .ok (.iload 4, 2) := by decide +kernel
theorem dX8_findOdds_49 : decode cX8_findOdds 49 = .ok (.isub, 1) := by decide +kernel
theorem dX8_findOdds_50 : decode cX8_findOdds 50 = .ok (.invokestatic 212, 3) := by decide +kernel
theorem dX8_findOdds_53 : decode cX8_findOdds 53 = .ok (.lmul, 1) := by decide +kernel
theorem dX8_findOdds_54 : decode cX8_findOdds 54 = .ok (.lstore 5, 2) := by decide +kernel
theorem dX8_findOdds_56 : decode cX8_findOdds 56 = .ok (.lload 5, 2) := by decide +kernel
theorem dX8_findOdds_58 : decode cX8_findOdds 58 = .ok (.lconst 0, 1) := by decide +kernel
theorem dX8_findOdds_59 : decode cX8_findOdds 59 = .ok (.lcmp, 1) := by decide +kernel
theorem dX8_findOdds_60 : decode cX8_findOdds 60 = .ok (.ifCond .ne 8, 3) := by decide +kernel
theorem dX8_findOdds_63 : decode cX8_findOdds 63 = .ok (.bipush (-4), 2) := by decide +kernel
theorem dX8_findOdds_65 : decode cX8_findOdds 65 = .ok (.goto 15, 3) := by decide +kernel
theorem dX8_findOdds_68 : decode cX8_findOdds 68 = .ok (.aload_n 0, 1) := by decide +kernel
theorem dX8_findOdds_69 : decode cX8_findOdds 69 = .ok (.aload_n 0, 1) := by decide +kernel
theorem dX8_findOdds_70 : decode cX8_findOdds 70 = .ok (.getfield 7, 3) := by decide +kernel
theorem dX8_findOdds_73 : decode cX8_findOdds 73 = .ok (.iload_n 1, 1) := by decide +kernel
theorem dX8_findOdds_74 : decode cX8_findOdds 74 = .ok (.iaload, 1) := by decide +kernel
theorem dX8_findOdds_75 : decode cX8_findOdds 75 = .ok (.iload_n 3, 1) := by decide +kernel
theorem dX8_findOdds_76 : decode cX8_findOdds 76 = .ok (.ixor, 1) := by decide +kernel
theorem dX8_findOdds_77 : decode cX8_findOdds 77 = .ok (.invokevirtual 114, 3) := by decide +kernel
theorem dX8_findOdds_80 : decode cX8_findOdds 80 = .ok (.istore 7, 2) := by decide +kernel
theorem dX8_findOdds_82 : decode cX8_findOdds 82 = .ok (.iload 7, 2) := by decide +kernel
theorem dX8_findOdds_84 : decode cX8_findOdds 84 = .ok (.ifCond .lt 15, 3) := by decide +kernel
theorem dX8_findOdds_87 : decode cX8_findOdds 87 = .ok (.aload_n 0, 1) := by decide +kernel
theorem dX8_findOdds_88 : decode cX8_findOdds 88 = .ok (.getfield 49, 3) := by decide +kernel
theorem dX8_findOdds_91 : decode cX8_findOdds 91 = .ok (.iload 7, 2) := by decide +kernel
theorem dX8_findOdds_93 : decode cX8_findOdds 93 = .ok (.dup2, 1) := by decide +kernel
theorem dX8_findOdds_94 : decode cX8_findOdds 94 = .ok (.laload, 1) := by decide +kernel
theorem dX8_findOdds_95 : decode cX8_findOdds 95 = .ok (.lload 5, 2) := by decide +kernel
theorem dX8_findOdds_97 : decode cX8_findOdds 97 = .ok (.ladd, 1) := by decide +kernel
theorem dX8_findOdds_98 : decode cX8_findOdds 98 = .ok (.lastore, 1) := by decide +kernel
theorem dX8_findOdds_99 : decode cX8_findOdds 99 = .ok (.iinc 3 1, 3) := by decide +kernel
theorem dX8_findOdds_102 : decode cX8_findOdds 102 = .ok (.goto (-79), 3) := by decide +kernel
theorem dX8_findOdds_105 : decode cX8_findOdds 105 = .ok (.return_, 1) := by decide +kernel
theorem dX8_sure_0 : decode cX8_sure 0 = .ok (.iload_n 1, 1) := by decide +kernel
theorem dX8_sure_1 : decode cX8_sure 1 = .ok (.invokestatic 101, 3) := by decide +kernel
theorem dX8_sure_4 : decode cX8_sure 4 = .ok (.ifCond .eq 15, 3) := by decide +kernel
theorem dX8_sure_7 : decode cX8_sure 7 = .ok (.iload_n 2, 1) := by decide +kernel
theorem dX8_sure_8 : decode cX8_sure 8 = .ok (.i2l, 1) := by decide +kernel
theorem dX8_sure_9 : decode cX8_sure 9 = .ok (.lconst 0, 1) := by decide +kernel
theorem dX8_sure_10 : decode cX8_sure 10 = .ok (.ldc2_w 133, 3) := by decide +kernel
theorem dX8_sure_13 : decode cX8_sure 13 = .ok (.invokestatic 75, 3) := by decide +kernel
theorem dX8_sure_16 : decode cX8_sure 16 = .ok (.ifCond .ne 5, 3) := by decide +kernel
theorem dX8_sure_19 : decode cX8_sure 19 = .ok (.iconst (-1), 1) := by decide +kernel
theorem dX8_sure_20 : decode cX8_sure 20 = .ok (.ireturn, 1) := by decide +kernel
theorem dX8_sure_21 : decode cX8_sure 21 = .ok (.aload_n 0, 1) := by decide +kernel
theorem dX8_sure_22 : decode cX8_sure 22 = .ok (.iload_n 1, 1) := by decide +kernel
theorem dX8_sure_23 : decode cX8_sure 23 = .ok (.iload_n 2, 1) := by decide +kernel
theorem dX8_sure_24 : decode cX8_sure 24 = .ok (.invokevirtual 216, 3) := by decide +kernel
theorem dX8_sure_27 : decode cX8_sure 27 = .ok (.aload_n 0, 1) := by decide +kernel
theorem dX8_sure_28 : decode cX8_sure 28 = .ok (.getfield 49, 3) := by decide +kernel
theorem dX8_sure_31 : decode cX8_sure 31 = .ok (.iload_n 1, 1) := by decide +kernel
theorem dX8_sure_32 : decode cX8_sure 32 = .ok (.laload, 1) := by decide +kernel
theorem dX8_sure_33 : decode cX8_sure 33 = .ok (.bipush 30, 2) := by decide +kernel
theorem dX8_sure_35 : decode cX8_sure 35 = .ok (.lshr, 1) := by decide +kernel
theorem dX8_sure_36 : decode cX8_sure 36 = .ok (.lstore_n 3, 1) := by decide +kernel
theorem dX8_sure_37 : decode cX8_sure 37 = .ok (.aload_n 0, 1) := by decide +kernel
theorem dX8_sure_38 : decode cX8_sure 38 = .ok (.getfield 49, 3) := by decide +kernel
theorem dX8_sure_41 : decode cX8_sure 41 = .ok (.iload_n 1, 1) := by decide +kernel
theorem dX8_sure_42 : decode cX8_sure 42 = .ok (.laload, 1) := by decide +kernel
theorem dX8_sure_43 : decode cX8_sure 43 = .ok (.ldc2_w 220, 3) := by decide +kernel
theorem dX8_sure_46 : decode cX8_sure 46 = .ok (.land, 1) := by decide +kernel
theorem dX8_sure_47 : decode cX8_sure 47 = .ok (.lstore 5, 2) := by decide +kernel
theorem dX8_sure_49 : decode cX8_sure 49 = .ok (.ldc2_w 222, 3) := by decide +kernel
theorem dX8_sure_52 : decode cX8_sure 52 = .ok (.lload_n 3, 1) := by decide +kernel
theorem dX8_sure_53 : decode cX8_sure 53 = .ok (.lmul, 1) := by decide +kernel
theorem dX8_sure_54 : decode cX8_sure 54 = .ok (.ldc2_w 222, 3) := by decide +kernel
theorem dX8_sure_57 : decode cX8_sure 57 = .ok (.lload 5, 2) := by decide +kernel
theorem dX8_sure_59 : decode cX8_sure 59 = .ok (.lmul, 1) := by decide +kernel
theorem dX8_sure_60 : decode cX8_sure 60 = .ok (.bipush 30, 2) := by decide +kernel
theorem dX8_sure_62 : decode cX8_sure 62 = .ok (.lshr, 1) := by decide +kernel
theorem dX8_sure_63 : decode cX8_sure 63 = .ok (.ladd, 1) := by decide +kernel
theorem dX8_sure_64 : decode cX8_sure 64 = .ok (.bipush 30, 2) := by decide +kernel
theorem dX8_sure_66 : decode cX8_sure 66 = .ok (.lshr, 1) := by decide +kernel
theorem dX8_sure_67 : decode cX8_sure 67 = .ok (.l2i, 1) := by decide +kernel
theorem dX8_sure_68 : decode cX8_sure 68 = .ok (.ireturn, 1) := by decide +kernel
theorem dX8_taken_0 : decode cX8_taken 0 = .ok (.iload_n 1, 1) := by decide +kernel
theorem dX8_taken_1 : decode cX8_taken 1 = .ok (.invokestatic 101, 3) := by decide +kernel
theorem dX8_taken_4 : decode cX8_taken 4 = .ok (.ifCond .eq 15, 3) := by decide +kernel
theorem dX8_taken_7 : decode cX8_taken 7 = .ok (.iload_n 2, 1) := by decide +kernel
theorem dX8_taken_8 : decode cX8_taken 8 = .ok (.i2l, 1) := by decide +kernel
theorem dX8_taken_9 : decode cX8_taken 9 = .ok (.lconst 0, 1) := by decide +kernel
theorem dX8_taken_10 : decode cX8_taken 10 = .ok (.ldc2_w 133, 3) := by decide +kernel
theorem dX8_taken_13 : decode cX8_taken 13 = .ok (.invokestatic 75, 3) := by decide +kernel
theorem dX8_taken_16 : decode cX8_taken 16 = .ok (.ifCond .ne 5, 3) := by decide +kernel
theorem dX8_taken_19 : decode cX8_taken 19 = .ok (.iconst (-1), 1) := by decide +kernel
theorem dX8_taken_20 : decode cX8_taken 20 = .ok (.ireturn, 1) := by decide +kernel
theorem dX8_taken_21 : decode cX8_taken 21 = .ok (.aload_n 0, 1) := by decide +kernel
theorem dX8_taken_22 : decode cX8_taken 22 = .ok (.iload_n 1, 1) := by decide +kernel
theorem dX8_taken_23 : decode cX8_taken 23 = .ok (.iload_n 2, 1) := by decide +kernel
theorem dX8_taken_24 : decode cX8_taken 24 = .ok (.invokevirtual 216, 3) := by decide +kernel
theorem dX8_taken_27 : decode cX8_taken 27 = .ok (.bipush (-4), 2) := by decide +kernel
theorem dX8_taken_29 : decode cX8_taken 29 = .ok (.istore_n 3, 1) := by decide +kernel
theorem dX8_taken_30 : decode cX8_taken 30 = .ok (.lconst 0, 1) := by decide +kernel
theorem dX8_taken_31 : decode cX8_taken 31 = .ok (.lstore 4, 2) := by decide +kernel
theorem dX8_taken_33 : decode cX8_taken 33 = .ok (.iconst 0, 1) := by decide +kernel
theorem dX8_taken_34 : decode cX8_taken 34 = .ok (.istore 6, 2) := by decide +kernel
theorem dX8_taken_36 : decode cX8_taken 36 = .ok (.iload 6, 2) := by decide +kernel
theorem dX8_taken_38 : decode cX8_taken 38 = .ok (.bipush 26, 2) := by decide +kernel
theorem dX8_taken_40 : decode cX8_taken 40 = .ok (.if_icmp .ge 40, 3) := by decide +kernel
theorem dX8_taken_43 : decode cX8_taken 43 = .ok (.iload 6, 2) := by decide +kernel
theorem dX8_taken_45 : decode cX8_taken 45 = .ok (.iload_n 1, 1) := by decide +kernel
theorem dX8_taken_46 : decode cX8_taken 46 = .ok (.if_icmp .eq 28, 3) := by decide +kernel
theorem dX8_taken_49 : decode cX8_taken 49 = .ok (.aload_n 0, 1) := by decide +kernel
theorem dX8_taken_50 : decode cX8_taken 50 = .ok (.getfield 49, 3) := by decide +kernel
theorem dX8_taken_53 : decode cX8_taken 53 = .ok (.iload 6, 2) := by decide +kernel
theorem dX8_taken_55 : decode cX8_taken 55 = .ok (.laload, 1) := by decide +kernel
theorem dX8_taken_56 : decode cX8_taken 56 = .ok (.lload 4, 2) := by decide +kernel
theorem dX8_taken_58 : decode cX8_taken 58 = .ok (.lcmp, 1) := by decide +kernel
theorem dX8_taken_59 : decode cX8_taken 59 = .ok (.ifCond .le 15, 3) := by decide +kernel
theorem dX8_taken_62 : decode cX8_taken 62 = .ok (.iload 6, 2) := by decide +kernel
theorem dX8_taken_64 : decode cX8_taken 64 = .ok (.istore_n 3, 1) := by decide +kernel
theorem dX8_taken_65 : decode cX8_taken 65 = .ok (.aload_n 0, 1) := by decide +kernel
theorem dX8_taken_66 : decode cX8_taken 66 = .ok (.getfield 49, 3) := by decide +kernel
theorem dX8_taken_69 : decode cX8_taken 69 = .ok (.iload 6, 2) := by decide +kernel
theorem dX8_taken_71 : decode cX8_taken 71 = .ok (.laload, 1) := by decide +kernel
theorem dX8_taken_72 : decode cX8_taken 72 = .ok (.lstore 4, 2) := by decide +kernel
theorem dX8_taken_74 : decode cX8_taken 74 = .ok (.iinc 6 1, 3) := by decide +kernel
theorem dX8_taken_77 : decode cX8_taken 77 = .ok (.goto (-41), 3) := by decide +kernel
theorem dX8_taken_80 : decode cX8_taken 80 = .ok (.iload_n 3, 1) := by decide +kernel
theorem dX8_taken_81 : decode cX8_taken 81 = .ok (.ireturn, 1) := by decide +kernel
theorem dX8_fades_0 : decode cX8_fades 0 = .ok (.aload_n 0, 1) := by decide +kernel
theorem dX8_fades_1 : decode cX8_fades 1 = .ok (.iload_n 1, 1) := by decide +kernel
theorem dX8_fades_2 : decode cX8_fades 2 = .ok (.invokevirtual 174, 3) := by decide +kernel
theorem dX8_fades_5 : decode cX8_fades 5 = .ok (.ifCond .eq 11, 3) := by decide +kernel
theorem dX8_fades_8 : decode cX8_fades 8 = .ok (.aload_n 0, 1) := by decide +kernel
theorem dX8_fades_9 : decode cX8_fades 9 = .ok (.iload_n 2, 1) := by decide +kernel
theorem dX8_fades_10 : decode cX8_fades 10 = .ok (.invokevirtual 94, 3) := by decide +kernel
theorem dX8_fades_13 : decode cX8_fades 13 = .ok (.ifCond .ne 5, 3) := by decide +kernel
theorem dX8_fades_16 : decode cX8_fades 16 = .ok (.iconst (-1), 1) := by decide +kernel
theorem dX8_fades_17 : decode cX8_fades 17 = .ok (.ireturn, 1) := by decide +kernel
theorem dX8_fades_18 : decode cX8_fades 18 = .ok (.aload_n 0, 1) := by decide +kernel
theorem dX8_fades_19 : decode cX8_fades 19 = .ok (.iload_n 1, 1) := by decide +kernel
theorem dX8_fades_20 : decode cX8_fades 20 = .ok (.iload_n 2, 1) := by decide +kernel
theorem dX8_fades_21 : decode cX8_fades 21 = .ok (.invokevirtual 188, 3) := by decide +kernel
theorem dX8_fades_24 : decode cX8_fades 24 = .ok (.ifCond .ne 6, 3) := by decide +kernel
theorem dX8_fades_27 : decode cX8_fades 27 = .ok (.bipush (-2), 2) := by decide +kernel
theorem dX8_fades_29 : decode cX8_fades 29 = .ok (.ireturn, 1) := by decide +kernel
theorem dX8_fades_30 : decode cX8_fades 30 = .ok (.iconst 0, 1) := by decide +kernel
theorem dX8_fades_31 : decode cX8_fades 31 = .ok (.istore_n 3, 1) := by decide +kernel
theorem dX8_fades_32 : decode cX8_fades 32 = .ok (.iload_n 3, 1) := by decide +kernel
theorem dX8_fades_33 : decode cX8_fades 33 = .ok (.sipush 135, 3) := by decide +kernel
theorem dX8_fades_36 : decode cX8_fades 36 = .ok (.if_icmp .ge 21, 3) := by decide +kernel
theorem dX8_fades_39 : decode cX8_fades 39 = .ok (.aload_n 0, 1) := by decide +kernel
theorem dX8_fades_40 : decode cX8_fades 40 = .ok (.getfield 53, 3) := by decide +kernel
theorem dX8_fades_43 : decode cX8_fades 43 = .ok (.iload_n 3, 1) := by decide +kernel
theorem dX8_fades_44 : decode cX8_fades 44 = .ok (.aload_n 0, 1) := by decide +kernel
theorem dX8_fades_45 : decode cX8_fades 45 = .ok (.getfield 16, 3) := by decide +kernel
theorem dX8_fades_48 : decode cX8_fades 48 = .ok (.iload_n 3, 1) := by decide +kernel
theorem dX8_fades_49 : decode cX8_fades 49 = .ok (.iaload, 1) := by decide +kernel
theorem dX8_fades_50 : decode cX8_fades 50 = .ok (.iastore, 1) := by decide +kernel
theorem dX8_fades_51 : decode cX8_fades 51 = .ok (.iinc 3 1, 3) := by decide +kernel
theorem dX8_fades_54 : decode cX8_fades 54 = .ok (.goto (-22), 3) := by decide +kernel
theorem dX8_fades_57 : decode cX8_fades 57 = .ok (.bipush (-4), 2) := by decide +kernel
theorem dX8_fades_59 : decode cX8_fades 59 = .ok (.istore_n 3, 1) := by decide +kernel
theorem dX8_fades_60 : decode cX8_fades 60 = .ok (.iconst 1, 1) := by decide +kernel
theorem dX8_fades_61 : decode cX8_fades 61 = .ok (.istore 4, 2) := by decide +kernel
theorem dX8_fades_63 : decode cX8_fades 63 = .ok (.iload 4, 2) := by decide +kernel
theorem dX8_fades_65 : decode cX8_fades 65 = .ok (.bipush 30, 2) := by decide +kernel
theorem dX8_fades_67 : decode cX8_fades 67 = .ok (.if_icmp .gt 34, 3) := by decide +kernel
theorem dX8_fades_70 : decode cX8_fades 70 = .ok (.iload_n 3, 1) := by decide +kernel
theorem dX8_fades_71 : decode cX8_fades 71 = .ok (.ifCond .ge 30, 3) := by decide +kernel
theorem dX8_fades_74 : decode cX8_fades 74 = .ok (.aload_n 0, 1) := by decide +kernel
theorem dX8_fades_75 : decode cX8_fades 75 = .ok (.invokevirtual 130, 3) := by decide +kernel
theorem dX8_fades_78 : decode cX8_fades 78 = .ok (.aload_n 0, 1) := by decide +kernel
theorem dX8_fades_79 : decode cX8_fades 79 = .ok (.iload_n 1, 1) := by decide +kernel
theorem dX8_fades_80 : decode cX8_fades 80 = .ok (.iload_n 2, 1) := by decide +kernel
theorem dX8_fades_81 : decode cX8_fades 81 = .ok (.invokevirtual 188, 3) := by decide +kernel
theorem dX8_fades_84 : decode cX8_fades 84 = .ok (.ifCond .eq 8, 3) := by decide +kernel
theorem dX8_fades_87 : decode cX8_fades 87 = .ok (.bipush (-4), 2) := by decide +kernel
theorem dX8_fades_89 : decode cX8_fades 89 = .ok (.goto 5, 3) := by decide +kernel
theorem dX8_fades_92 : decode cX8_fades 92 = .ok (.iload 4, 2) := by decide +kernel
theorem dX8_fades_94 : decode cX8_fades 94 = .ok (.istore_n 3, 1) := by decide +kernel
theorem dX8_fades_95 : decode cX8_fades 95 = .ok (.iinc 4 1, 3) := by decide +kernel
theorem dX8_fades_98 : decode cX8_fades 98 = .ok (.goto (-35), 3) := by decide +kernel
theorem dX8_fades_101 : decode cX8_fades 101 = .ok (.iconst 0, 1) := by decide +kernel
theorem dX8_fades_102 : decode cX8_fades 102 = .ok (.istore 4, 2) := by decide +kernel
theorem dX8_fades_104 : decode cX8_fades 104 = .ok (.iload 4, 2) := by decide +kernel
theorem dX8_fades_106 : decode cX8_fades 106 = .ok (.sipush 135, 3) := by decide +kernel
theorem dX8_fades_109 : decode cX8_fades 109 = .ok (.if_icmp .ge 23, 3) := by decide +kernel
theorem dX8_fades_112 : decode cX8_fades 112 = .ok (.aload_n 0, 1) := by decide +kernel
theorem dX8_fades_113 : decode cX8_fades 113 = .ok (.getfield 16, 3) := by decide +kernel
theorem dX8_fades_116 : decode cX8_fades 116 = .ok (.iload 4, 2) := by decide +kernel
theorem dX8_fades_118 : decode cX8_fades 118 = .ok (.aload_n 0, 1) := by decide +kernel
theorem dX8_fades_119 : decode cX8_fades 119 = .ok (.getfield 53, 3) := by decide +kernel
theorem dX8_fades_122 : decode cX8_fades 122 = .ok (.iload 4, 2) := by decide +kernel
theorem dX8_fades_124 : decode cX8_fades 124 = .ok (.iaload, 1) := by decide +kernel
theorem dX8_fades_125 : decode cX8_fades 125 = .ok (.iastore, 1) := by decide +kernel
theorem dX8_fades_126 : decode cX8_fades 126 = .ok (.iinc 4 1, 3) := by decide +kernel
theorem dX8_fades_129 : decode cX8_fades 129 = .ok (.goto (-25), 3) := by decide +kernel
theorem dX8_fades_132 : decode cX8_fades 132 = .ok (.iload_n 3, 1) := by decide +kernel
theorem dX8_fades_133 : decode cX8_fades 133 = .ok (.ireturn, 1) := by decide +kernel
theorem dX8_areLike_0 : decode cX8_areLike 0 = .ok (.aload_n 0, 1) := by decide +kernel
theorem dX8_areLike_1 : decode cX8_areLike 1 = .ok (.iload_n 1, 1) := by decide +kernel
theorem dX8_areLike_2 : decode cX8_areLike 2 = .ok (.invokevirtual 179, 3) := by decide +kernel
theorem dX8_areLike_5 : decode cX8_areLike 5 = .ok (.aload_n 0, 1) := by decide +kernel
theorem dX8_areLike_6 : decode cX8_areLike 6 = .ok (.iload_n 2, 1) := by decide +kernel
theorem dX8_areLike_7 : decode cX8_areLike 7 = .ok (.invokevirtual 179, 3) := by decide +kernel
theorem dX8_areLike_10 : decode cX8_areLike 10 = .ok (.if_icmp .ne 7, 3) := by decide +kernel
theorem dX8_areLike_13 : decode cX8_areLike 13 = .ok (.iconst 1, 1) := by decide +kernel
theorem dX8_areLike_14 : decode cX8_areLike 14 = .ok (.goto 4, 3) := by decide +kernel
theorem dX8_areLike_17 : decode cX8_areLike 17 = .ok (.iconst 0, 1) := by decide +kernel
theorem dX8_areLike_18 : decode cX8_areLike 18 = .ok (.istore_n 3, 1) := by decide +kernel
theorem dX8_areLike_19 : decode cX8_areLike 19 = .ok (.iconst 0, 1) := by decide +kernel
theorem dX8_areLike_20 : decode cX8_areLike 20 = .ok (.istore 4, 2) := by decide +kernel
theorem dX8_areLike_22 : decode cX8_areLike 22 = .ok (.iload 4, 2) := by decide +kernel
theorem dX8_areLike_24 : decode cX8_areLike 24 = .ok (.aload_n 0, 1) := by decide +kernel
theorem dX8_areLike_25 : decode cX8_areLike 25 = .ok (.iload_n 1, 1) := by decide +kernel
theorem dX8_areLike_26 : decode cX8_areLike 26 = .ok (.invokevirtual 179, 3) := by decide +kernel
theorem dX8_areLike_29 : decode cX8_areLike 29 = .ok (.if_icmp .ge 36, 3) := by decide +kernel
theorem dX8_areLike_32 : decode cX8_areLike 32 = .ok (.iload_n 3, 1) := by decide +kernel
theorem dX8_areLike_33 : decode cX8_areLike 33 = .ok (.ifCond .eq 32, 3) := by decide +kernel
theorem dX8_areLike_36 : decode cX8_areLike 36 = .ok (.aload_n 0, 1) := by decide +kernel
theorem dX8_areLike_37 : decode cX8_areLike 37 = .ok (.iload_n 1, 1) := by decide +kernel
theorem dX8_areLike_38 : decode cX8_areLike 38 = .ok (.iload 4, 2) := by decide +kernel
theorem dX8_areLike_40 : decode cX8_areLike 40 = .ok (.invokevirtual 185, 3) := by decide +kernel
theorem dX8_areLike_43 : decode cX8_areLike 43 = .ok (.aload_n 0, 1) := by decide +kernel
theorem dX8_areLike_44 : decode cX8_areLike 44 = .ok (.iload_n 2, 1) := by decide +kernel
theorem dX8_areLike_45 : decode cX8_areLike 45 = .ok (.iload 4, 2) := by decide +kernel
theorem dX8_areLike_47 : decode cX8_areLike 47 = .ok (.invokevirtual 185, 3) := by decide +kernel
theorem dX8_areLike_50 : decode cX8_areLike 50 = .ok (.if_icmp .ne 7, 3) := by decide +kernel
theorem dX8_areLike_53 : decode cX8_areLike 53 = .ok (.iconst 1, 1) := by decide +kernel
theorem dX8_areLike_54 : decode cX8_areLike 54 = .ok (.goto 4, 3) := by decide +kernel
theorem dX8_areLike_57 : decode cX8_areLike 57 = .ok (.iconst 0, 1) := by decide +kernel
theorem dX8_areLike_58 : decode cX8_areLike 58 = .ok (.istore_n 3, 1) := by decide +kernel
theorem dX8_areLike_59 : decode cX8_areLike 59 = .ok (.iinc 4 1, 3) := by decide +kernel
theorem dX8_areLike_62 : decode cX8_areLike 62 = .ok (.goto (-40), 3) := by decide +kernel
theorem dX8_areLike_65 : decode cX8_areLike 65 = .ok (.iload_n 3, 1) := by decide +kernel
theorem dX8_areLike_66 : decode cX8_areLike 66 = .ok (.ireturn, 1) := by decide +kernel
theorem dX8_isIn_0 : decode cX8_isIn 0 = .ok (.iconst 0, 1) := by decide +kernel
theorem dX8_isIn_1 : decode cX8_isIn 1 = .ok (.istore 4, 2) := by decide +kernel
theorem dX8_isIn_3 : decode cX8_isIn 3 = .ok (.iconst 0, 1) := by decide +kernel
theorem dX8_isIn_4 : decode cX8_isIn 4 = .ok (.istore 5, 2) := by decide +kernel
theorem dX8_isIn_6 : decode cX8_isIn 6 = .ok (.iload 5, 2) := by decide +kernel
theorem dX8_isIn_8 : decode cX8_isIn 8 = .ok (.aload_n 0, 1) := by decide +kernel
theorem dX8_isIn_9 : decode cX8_isIn 9 = .ok (.iload_n 1, 1) := by decide +kernel
theorem dX8_isIn_10 : decode cX8_isIn 10 = .ok (.invokevirtual 179, 3) := by decide +kernel
theorem dX8_isIn_13 : decode cX8_isIn 13 = .ok (.if_icmp .ge 66, 3) := by decide +kernel
theorem dX8_isIn_16 : decode cX8_isIn 16 = .ok (.iload_n 2, 1) := by decide +kernel
theorem dX8_isIn_17 : decode cX8_isIn 17 = .ok (.iload 5, 2) := by decide +kernel
theorem dX8_isIn_19 : decode cX8_isIn 19 = .ok (.invokestatic 117, 3) := by decide +kernel
theorem dX8_isIn_22 : decode cX8_isIn 22 = .ok (.ifCond .eq 51, 3) := by decide +kernel
theorem dX8_isIn_25 : decode cX8_isIn 25 = .ok (.iload 4, 2) := by decide +kernel
theorem dX8_isIn_27 : decode cX8_isIn 27 = .ok (.aload_n 0, 1) := by decide +kernel
theorem dX8_isIn_28 : decode cX8_isIn 28 = .ok (.iload_n 3, 1) := by decide +kernel
theorem dX8_isIn_29 : decode cX8_isIn 29 = .ok (.invokevirtual 179, 3) := by decide +kernel
theorem dX8_isIn_32 : decode cX8_isIn 32 = .ok (.if_icmp .ge 26, 3) := by decide +kernel
theorem dX8_isIn_35 : decode cX8_isIn 35 = .ok (.aload_n 0, 1) := by decide +kernel
theorem dX8_isIn_36 : decode cX8_isIn 36 = .ok (.iload_n 3, 1) := by decide +kernel
theorem dX8_isIn_37 : decode cX8_isIn 37 = .ok (.iload 4, 2) := by decide +kernel
theorem dX8_isIn_39 : decode cX8_isIn 39 = .ok (.invokevirtual 185, 3) := by decide +kernel
theorem dX8_isIn_42 : decode cX8_isIn 42 = .ok (.aload_n 0, 1) := by decide +kernel
theorem dX8_isIn_43 : decode cX8_isIn 43 = .ok (.iload_n 1, 1) := by decide +kernel
theorem dX8_isIn_44 : decode cX8_isIn 44 = .ok (.iload 5, 2) := by decide +kernel
theorem dX8_isIn_46 : decode cX8_isIn 46 = .ok (.invokevirtual 185, 3) := by decide +kernel
theorem dX8_isIn_49 : decode cX8_isIn 49 = .ok (.if_icmp .eq 9, 3) := by decide +kernel
theorem dX8_isIn_52 : decode cX8_isIn 52 = .ok (.iinc 4 1, 3) := by decide +kernel
theorem dX8_isIn_55 : decode cX8_isIn 55 = .ok (.goto (-30), 3) := by decide +kernel
theorem dX8_isIn_58 : decode cX8_isIn 58 = .ok (.iload 4, 2) := by decide +kernel
theorem dX8_isIn_60 : decode cX8_isIn 60 = .ok (.aload_n 0, 1) := by decide +kernel
theorem dX8_isIn_61 : decode cX8_isIn 61 = .ok (.iload_n 3, 1) := by decide +kernel
theorem dX8_isIn_62 : decode cX8_isIn 62 = .ok (.invokevirtual 179, 3) := by decide +kernel
theorem dX8_isIn_65 : decode cX8_isIn 65 = .ok (.if_icmp .ne 5, 3) := by decide +kernel
theorem dX8_isIn_68 : decode cX8_isIn 68 = .ok (.iconst 0, 1) := by decide +kernel
theorem dX8_isIn_69 : decode cX8_isIn 69 = .ok (.ireturn, 1) := by decide +kernel
theorem dX8_isIn_70 : decode cX8_isIn 70 = .ok (.iinc 4 1, 3) := by decide +kernel
theorem dX8_isIn_73 : decode cX8_isIn 73 = .ok (.iinc 5 1, 3) := by decide +kernel
theorem dX8_isIn_76 : decode cX8_isIn 76 = .ok (.goto (-70), 3) := by decide +kernel
theorem dX8_isIn_79 : decode cX8_isIn 79 = .ok (.iconst 1, 1) := by decide +kernel
theorem dX8_isIn_80 : decode cX8_isIn 80 = .ok (.ireturn, 1) := by decide +kernel
theorem dX8_brief_0 : decode cX8_brief 0 = .ok (.aload_n 0, 1) := by decide +kernel
theorem dX8_brief_1 : decode cX8_brief 1 = .ok (.iload_n 1, 1) := by decide +kernel
theorem dX8_brief_2 : decode cX8_brief 2 = .ok (.invokevirtual 174, 3) := by decide +kernel
theorem dX8_brief_5 : decode cX8_brief 5 = .ok (.ifCond .ne 5, 3) := by decide +kernel
theorem dX8_brief_8 : decode cX8_brief 8 = .ok (.iconst (-1), 1) := by decide +kernel
theorem dX8_brief_9 : decode cX8_brief 9 = .ok (.ireturn, 1) := by decide +kernel
theorem dX8_brief_10 : decode cX8_brief 10 = .ok (.bipush (-4), 2) := by decide +kernel
theorem dX8_brief_12 : decode cX8_brief 12 = .ok (.istore_n 2, 1) := by decide +kernel
theorem dX8_brief_13 : decode cX8_brief 13 = .ok (.iconst 1, 1) := by decide +kernel
theorem dX8_brief_14 : decode cX8_brief 14 = .ok (.istore_n 3, 1) := by decide +kernel
theorem dX8_brief_15 : decode cX8_brief 15 = .ok (.iload_n 3, 1) := by decide +kernel
theorem dX8_brief_16 : decode cX8_brief 16 = .ok (.iconst 1, 1) := by decide +kernel
theorem dX8_brief_17 : decode cX8_brief 17 = .ok (.aload_n 0, 1) := by decide +kernel
theorem dX8_brief_18 : decode cX8_brief 18 = .ok (.iload_n 1, 1) := by decide +kernel
theorem dX8_brief_19 : decode cX8_brief 19 = .ok (.invokevirtual 179, 3) := by decide +kernel
theorem dX8_brief_22 : decode cX8_brief 22 = .ok (.ishl, 1) := by decide +kernel
theorem dX8_brief_23 : decode cX8_brief 23 = .ok (.if_icmp .ge 89, 3) := by decide +kernel
theorem dX8_brief_26 : decode cX8_brief 26 = .ok (.iconst 1, 1) := by decide +kernel
theorem dX8_brief_27 : decode cX8_brief 27 = .ok (.istore 4, 2) := by decide +kernel
theorem dX8_brief_29 : decode cX8_brief 29 = .ok (.iconst 0, 1) := by decide +kernel
theorem dX8_brief_30 : decode cX8_brief 30 = .ok (.istore 5, 2) := by decide +kernel
theorem dX8_brief_32 : decode cX8_brief 32 = .ok (.iload 5, 2) := by decide +kernel
theorem dX8_brief_34 : decode cX8_brief 34 = .ok (.aload_n 0, 1) := by decide +kernel
theorem dX8_brief_35 : decode cX8_brief 35 = .ok (.getfield 83, 3) := by decide +kernel
theorem dX8_brief_38 : decode cX8_brief 38 = .ok (.if_icmp .ge 42, 3) := by decide +kernel
theorem dX8_brief_41 : decode cX8_brief 41 = .ok (.iload 4, 2) := by decide +kernel
theorem dX8_brief_43 : decode cX8_brief 43 = .ok (.ifCond .eq 28, 3) := by decide +kernel
theorem dX8_brief_46 : decode cX8_brief 46 = .ok (.aload_n 0, 1) := by decide +kernel
theorem dX8_brief_47 : decode cX8_brief 47 = .ok (.iload_n 1, 1) := by decide +kernel
theorem dX8_brief_48 : decode cX8_brief 48 = .ok (.iload 5, 2) := by decide +kernel
theorem dX8_brief_50 : decode cX8_brief 50 = .ok (.invokevirtual 224, 3) := by decide +kernel
theorem dX8_brief_53 : decode cX8_brief 53 = .ok (.ifCond .ne 14, 3) := by decide +kernel
theorem dX8_brief_56 : decode cX8_brief 56 = .ok (.aload_n 0, 1) := by decide +kernel
theorem dX8_brief_57 : decode cX8_brief 57 = .ok (.iload_n 1, 1) := by decide +kernel
theorem dX8_brief_58 : decode cX8_brief 58 = .ok (.iload_n 3, 1) := by decide +kernel
theorem dX8_brief_59 : decode cX8_brief 59 = .ok (.iload 5, 2) := by decide +kernel
theorem dX8_brief_61 : decode cX8_brief 61 = .ok (.invokevirtual 227, 3) := by decide +kernel
theorem dX8_brief_64 : decode cX8_brief 64 = .ok (.ifCond .ne 7, 3) := by decide +kernel
theorem dX8_brief_67 : decode cX8_brief 67 = .ok (.iconst 1, 1) := by decide +kernel
theorem dX8_brief_68 : decode cX8_brief 68 = .ok (.goto 4, 3) := by decide +kernel
theorem dX8_brief_71 : decode cX8_brief 71 = .ok (.iconst 0, 1) := by decide +kernel
theorem dX8_brief_72 : decode cX8_brief 72 = .ok (.istore 4, 2) := by decide +kernel
theorem dX8_brief_74 : decode cX8_brief 74 = .ok (.iinc 5 1, 3) := by decide +kernel
theorem dX8_brief_77 : decode cX8_brief 77 = .ok (.goto (-45), 3) := by decide +kernel
theorem dX8_brief_80 : decode cX8_brief 80 = .ok (.iload 4, 2) := by decide +kernel
theorem dX8_brief_82 : decode cX8_brief 82 = .ok (.ifCond .eq 22, 3) := by decide +kernel
theorem dX8_brief_85 : decode cX8_brief 85 = .ok (.iload_n 2, 1) := by decide +kernel
theorem dX8_brief_86 : decode cX8_brief 86 = .ok (.ifCond .lt 14, 3) := by decide +kernel
theorem dX8_brief_89 : decode cX8_brief 89 = .ok (.iload_n 3, 1) := by decide +kernel
theorem dX8_brief_90 : decode cX8_brief 90 = .ok (.invokestatic 108, 3) := by decide +kernel
theorem dX8_brief_93 : decode cX8_brief 93 = .ok (.iload_n 2, 1) := by decide +kernel
theorem dX8_brief_94 : decode cX8_brief 94 = .ok (.invokestatic 108, 3) := by decide +kernel
theorem dX8_brief_97 : decode cX8_brief 97 = .ok (.if_icmp .ge 7, 3) := by decide +kernel
theorem dX8_brief_100 : decode cX8_brief 100 = .ok (.iload_n 3, 1) := by decide +kernel
theorem dX8_brief_101 : decode cX8_brief 101 = .ok (.goto 4, 3) := by decide +kernel
theorem dX8_brief_104 : decode cX8_brief 104 = .ok (.iload_n 2, 1) := by decide +kernel
theorem dX8_brief_105 : decode cX8_brief 105 = .ok (.istore_n 2, 1) := by decide +kernel
theorem dX8_brief_106 : decode cX8_brief 106 = .ok (.iinc 3 1, 3) := by decide +kernel
theorem dX8_brief_109 : decode cX8_brief 109 = .ok (.goto (-94), 3) := by decide +kernel
theorem dX8_brief_112 : decode cX8_brief 112 = .ok (.iload_n 2, 1) := by decide +kernel
theorem dX8_brief_113 : decode cX8_brief 113 = .ok (.ireturn, 1) := by decide +kernel
theorem dX8_carried_0 : decode cX8_carried 0 = .ok (.iload_n 1, 1) := by decide +kernel
theorem dX8_carried_1 : decode cX8_carried 1 = .ok (.istore 4, 2) := by decide +kernel
theorem dX8_carried_3 : decode cX8_carried 3 = .ok (.iload 4, 2) := by decide +kernel
theorem dX8_carried_5 : decode cX8_carried 5 = .ok (.bipush 9, 2) := by decide +kernel
theorem dX8_carried_7 : decode cX8_carried 7 = .ok (.if_icmp .ge 33, 3) := by decide +kernel
theorem dX8_carried_10 : decode cX8_carried 10 = .ok (.aload_n 0, 1) := by decide +kernel
theorem dX8_carried_11 : decode cX8_carried 11 = .ok (.getfield 13, 3) := by decide +kernel
theorem dX8_carried_14 : decode cX8_carried 14 = .ok (.iload 4, 2) := by decide +kernel
theorem dX8_carried_16 : decode cX8_carried 16 = .ok (.iload_n 3, 1) := by decide +kernel
theorem dX8_carried_17 : decode cX8_carried 17 = .ok (.ifCond .eq 7, 3) := by decide +kernel
theorem dX8_carried_20 : decode cX8_carried 20 = .ok (.iload_n 2, 1) := by decide +kernel
theorem dX8_carried_21 : decode cX8_carried 21 = .ok (.goto 10, 3) := by decide +kernel
theorem dX8_carried_24 : decode cX8_carried 24 = .ok (.aload_n 0, 1) := by decide +kernel
theorem dX8_carried_25 : decode cX8_carried 25 = .ok (.getfield 13, 3) := by decide +kernel
theorem dX8_carried_28 : decode cX8_carried 28 = .ok (.iload 4, 2) := by decide +kernel
theorem dX8_carried_30 : decode cX8_carried 30 = .ok (.iaload, 1) := by decide +kernel
theorem dX8_carried_31 : decode cX8_carried 31 = .ok (.iastore, 1) := by decide +kernel
theorem dX8_carried_32 : decode cX8_carried 32 = .ok (.aload_n 0, 1) := by decide +kernel
theorem dX8_carried_33 : decode cX8_carried 33 = .ok (.getfield 13, 3) := by decide +kernel
theorem dX8_carried_36 : decode cX8_carried 36 = .ok (.iload 4, 2) := by decide +kernel
theorem dX8_carried_38 : decode cX8_carried 38 = .ok (.iaload, 1) := by decide +kernel
theorem dX8_carried_39 : decode cX8_carried 39 = .ok (.ireturn, 1) := by decide +kernel
theorem dX8_carried_40 : decode cX8_carried 40 = .ok (.iinc 4 (-9), 3) := by decide +kernel
theorem dX8_carried_43 : decode cX8_carried 43 = .ok (.iload 4, 2) := by decide +kernel
theorem dX8_carried_45 : decode cX8_carried 45 = .ok (.sipush 135, 3) := by decide +kernel
theorem dX8_carried_48 : decode cX8_carried 48 = .ok (.if_icmp .ge 33, 3) := by decide +kernel
theorem dX8_carried_51 : decode cX8_carried 51 = .ok (.aload_n 0, 1) := by decide +kernel
theorem dX8_carried_52 : decode cX8_carried 52 = .ok (.getfield 16, 3) := by decide +kernel
theorem dX8_carried_55 : decode cX8_carried 55 = .ok (.iload 4, 2) := by decide +kernel
theorem dX8_carried_57 : decode cX8_carried 57 = .ok (.iload_n 3, 1) := by decide +kernel
theorem dX8_carried_58 : decode cX8_carried 58 = .ok (.ifCond .eq 7, 3) := by decide +kernel
theorem dX8_carried_61 : decode cX8_carried 61 = .ok (.iload_n 2, 1) := by decide +kernel
theorem dX8_carried_62 : decode cX8_carried 62 = .ok (.goto 10, 3) := by decide +kernel
theorem dX8_carried_65 : decode cX8_carried 65 = .ok (.aload_n 0, 1) := by decide +kernel
theorem dX8_carried_66 : decode cX8_carried 66 = .ok (.getfield 16, 3) := by decide +kernel
theorem dX8_carried_69 : decode cX8_carried 69 = .ok (.iload 4, 2) := by decide +kernel
theorem dX8_carried_71 : decode cX8_carried 71 = .ok (.iaload, 1) := by decide +kernel
theorem dX8_carried_72 : decode cX8_carried 72 = .ok (.iastore, 1) := by decide +kernel
theorem dX8_carried_73 : decode cX8_carried 73 = .ok (.aload_n 0, 1) := by decide +kernel
theorem dX8_carried_74 : decode cX8_carried 74 = .ok (.getfield 16, 3) := by decide +kernel
theorem dX8_carried_77 : decode cX8_carried 77 = .ok (.iload 4, 2) := by decide +kernel
theorem dX8_carried_79 : decode cX8_carried 79 = .ok (.iaload, 1) := by decide +kernel
theorem dX8_carried_80 : decode cX8_carried 80 = .ok (.ireturn, 1) := by decide +kernel
theorem dX8_carried_81 : decode cX8_carried 81 = .ok (.iinc 4 (-135), 6) := by decide +kernel
theorem dX8_carried_87 : decode cX8_carried 87 = .ok (.iload 4, 2) := by decide +kernel
theorem dX8_carried_89 : decode cX8_carried 89 = .ok (.bipush 6, 2) := by decide +kernel
theorem dX8_carried_91 : decode cX8_carried 91 = .ok (.if_icmp .ge 33, 3) := by decide +kernel
theorem dX8_carried_94 : decode cX8_carried 94 = .ok (.aload_n 0, 1) := by decide +kernel
theorem dX8_carried_95 : decode cX8_carried 95 = .ok (.getfield 19, 3) := by decide +kernel
theorem dX8_carried_98 : decode cX8_carried 98 = .ok (.iload 4, 2) := by decide +kernel
theorem dX8_carried_100 : decode cX8_carried 100 = .ok (.iload_n 3, 1) := by decide +kernel
theorem dX8_carried_101 : decode cX8_carried 101 = .ok (.ifCond .eq 7, 3) := by decide +kernel
theorem dX8_carried_104 : decode cX8_carried 104 = .ok (.iload_n 2, 1) := by decide +kernel
theorem dX8_carried_105 : decode cX8_carried 105 = .ok (.goto 10, 3) := by decide +kernel
theorem dX8_carried_108 : decode cX8_carried 108 = .ok (.aload_n 0, 1) := by decide +kernel
theorem dX8_carried_109 : decode cX8_carried 109 = .ok (.getfield 19, 3) := by decide +kernel
theorem dX8_carried_112 : decode cX8_carried 112 = .ok (.iload 4, 2) := by decide +kernel
theorem dX8_carried_114 : decode cX8_carried 114 = .ok (.iaload, 1) := by decide +kernel
theorem dX8_carried_115 : decode cX8_carried 115 = .ok (.iastore, 1) := by decide +kernel
theorem dX8_carried_116 : decode cX8_carried 116 = .ok (.aload_n 0, 1) := by decide +kernel
theorem dX8_carried_117 : decode cX8_carried 117 = .ok (.getfield 19, 3) := by decide +kernel
theorem dX8_carried_120 : decode cX8_carried 120 = .ok (.iload 4, 2) := by decide +kernel
theorem dX8_carried_122 : decode cX8_carried 122 = .ok (.iaload, 1) := by decide +kernel
theorem dX8_carried_123 : decode cX8_carried 123 = .ok (.ireturn, 1) := by decide +kernel
theorem dX8_carried_124 : decode cX8_carried 124 = .ok (.iinc 4 (-6), 3) := by decide +kernel
theorem dX8_carried_127 : decode cX8_carried 127 = .ok (.iload 4, 2) := by decide +kernel
theorem dX8_carried_129 : decode cX8_carried 129 = .ok (.iconst 4, 1) := by decide +kernel
theorem dX8_carried_130 : decode cX8_carried 130 = .ok (.if_icmp .ge 33, 3) := by decide +kernel
theorem dX8_carried_133 : decode cX8_carried 133 = .ok (.aload_n 0, 1) := by decide +kernel
theorem dX8_carried_134 : decode cX8_carried 134 = .ok (.getfield 22, 3) := by decide +kernel
theorem dX8_carried_137 : decode cX8_carried 137 = .ok (.iload 4, 2) := by decide +kernel
theorem dX8_carried_139 : decode cX8_carried 139 = .ok (.iload_n 3, 1) := by decide +kernel
theorem dX8_carried_140 : decode cX8_carried 140 = .ok (.ifCond .eq 7, 3) := by decide +kernel
theorem dX8_carried_143 : decode cX8_carried 143 = .ok (.iload_n 2, 1) := by decide +kernel
theorem dX8_carried_144 : decode cX8_carried 144 = .ok (.goto 10, 3) := by decide +kernel
theorem dX8_carried_147 : decode cX8_carried 147 = .ok (.aload_n 0, 1) := by decide +kernel
theorem dX8_carried_148 : decode cX8_carried 148 = .ok (.getfield 22, 3) := by decide +kernel
theorem dX8_carried_151 : decode cX8_carried 151 = .ok (.iload 4, 2) := by decide +kernel
theorem dX8_carried_153 : decode cX8_carried 153 = .ok (.iaload, 1) := by decide +kernel
theorem dX8_carried_154 : decode cX8_carried 154 = .ok (.iastore, 1) := by decide +kernel
theorem dX8_carried_155 : decode cX8_carried 155 = .ok (.aload_n 0, 1) := by decide +kernel
theorem dX8_carried_156 : decode cX8_carried 156 = .ok (.getfield 22, 3) := by decide +kernel
theorem dX8_carried_159 : decode cX8_carried 159 = .ok (.iload 4, 2) := by decide +kernel
theorem dX8_carried_161 : decode cX8_carried 161 = .ok (.iaload, 1) := by decide +kernel
theorem dX8_carried_162 : decode cX8_carried 162 = .ok (.ireturn, 1) := by decide +kernel
theorem dX8_carried_163 : decode cX8_carried 163 = .ok (.iinc 4 (-4), 3) := by decide +kernel
theorem dX8_carried_166 : decode cX8_carried 166 = .ok (.iload 4, 2) := by decide +kernel
theorem dX8_carried_168 : decode cX8_carried 168 = .ok (.bipush 36, 2) := by decide +kernel
theorem dX8_carried_170 : decode cX8_carried 170 = .ok (.if_icmp .ge 33, 3) := by decide +kernel
theorem dX8_carried_173 : decode cX8_carried 173 = .ok (.aload_n 0, 1) := by decide +kernel
theorem dX8_carried_174 : decode cX8_carried 174 = .ok (.getfield 25, 3) := by decide +kernel
theorem dX8_carried_177 : decode cX8_carried 177 = .ok (.iload 4, 2) := by decide +kernel
theorem dX8_carried_179 : decode cX8_carried 179 = .ok (.iload_n 3, 1) := by decide +kernel
theorem dX8_carried_180 : decode cX8_carried 180 = .ok (.ifCond .eq 7, 3) := by decide +kernel
theorem dX8_carried_183 : decode cX8_carried 183 = .ok (.iload_n 2, 1) := by decide +kernel
theorem dX8_carried_184 : decode cX8_carried 184 = .ok (.goto 10, 3) := by decide +kernel
theorem dX8_carried_187 : decode cX8_carried 187 = .ok (.aload_n 0, 1) := by decide +kernel
theorem dX8_carried_188 : decode cX8_carried 188 = .ok (.getfield 25, 3) := by decide +kernel
theorem dX8_carried_191 : decode cX8_carried 191 = .ok (.iload 4, 2) := by decide +kernel
theorem dX8_carried_193 : decode cX8_carried 193 = .ok (.iaload, 1) := by decide +kernel
theorem dX8_carried_194 : decode cX8_carried 194 = .ok (.iastore, 1) := by decide +kernel
theorem dX8_carried_195 : decode cX8_carried 195 = .ok (.aload_n 0, 1) := by decide +kernel
theorem dX8_carried_196 : decode cX8_carried 196 = .ok (.getfield 25, 3) := by decide +kernel
theorem dX8_carried_199 : decode cX8_carried 199 = .ok (.iload 4, 2) := by decide +kernel
theorem dX8_carried_201 : decode cX8_carried 201 = .ok (.iaload, 1) := by decide +kernel
theorem dX8_carried_202 : decode cX8_carried 202 = .ok (.ireturn, 1) := by decide +kernel
theorem dX8_carried_203 : decode cX8_carried 203 = .ok (.iinc 4 (-36), 3) := by decide +kernel
theorem dX8_carried_206 : decode cX8_carried 206 = .ok (.aload_n 0, 1) := by decide +kernel
theorem dX8_carried_207 : decode cX8_carried 207 = .ok (.getfield 28, 3) := by decide +kernel
theorem dX8_carried_210 : decode cX8_carried 210 = .ok (.iload 4, 2) := by decide +kernel
theorem dX8_carried_212 : decode cX8_carried 212 = .ok (.iload_n 3, 1) := by decide +kernel
theorem dX8_carried_213 : decode cX8_carried 213 = .ok (.ifCond .eq 7, 3) := by decide +kernel
theorem dX8_carried_216 : decode cX8_carried 216 = .ok (.iload_n 2, 1) := by decide +kernel
theorem dX8_carried_217 : decode cX8_carried 217 = .ok (.goto 10, 3) := by decide +kernel
theorem dX8_carried_220 : decode cX8_carried 220 = .ok (.aload_n 0, 1) := by decide +kernel
theorem dX8_carried_221 : decode cX8_carried 221 = .ok (.getfield 28, 3) := by decide +kernel
theorem dX8_carried_224 : decode cX8_carried 224 = .ok (.iload 4, 2) := by decide +kernel
theorem dX8_carried_226 : decode cX8_carried 226 = .ok (.iaload, 1) := by decide +kernel
theorem dX8_carried_227 : decode cX8_carried 227 = .ok (.iastore, 1) := by decide +kernel
theorem dX8_carried_228 : decode cX8_carried 228 = .ok (.aload_n 0, 1) := by decide +kernel
theorem dX8_carried_229 : decode cX8_carried 229 = .ok (.getfield 28, 3) := by decide +kernel
theorem dX8_carried_232 : decode cX8_carried 232 = .ok (.iload 4, 2) := by decide +kernel
theorem dX8_carried_234 : decode cX8_carried 234 = .ok (.iaload, 1) := by decide +kernel
theorem dX8_carried_235 : decode cX8_carried 235 = .ok (.ireturn, 1) := by decide +kernel
theorem dX8_image_0 : decode cX8_image 0 = .ok (.iconst 0, 1) := by decide +kernel
theorem dX8_image_1 : decode cX8_image 1 = .ok (.istore_n 1, 1) := by decide +kernel
theorem dX8_image_2 : decode cX8_image 2 = .ok (.iload_n 1, 1) := by decide +kernel
theorem dX8_image_3 : decode cX8_image 3 = .ok (.sipush 270, 3) := by decide +kernel
theorem dX8_image_6 : decode cX8_image 6 = .ok (.if_icmp .ge 22, 3) := by decide +kernel
theorem dX8_image_9 : decode cX8_image 9 = .ok (.aload_n 0, 1) := by decide +kernel
theorem dX8_image_10 : decode cX8_image 10 = .ok (.getfield 56, 3) := by decide +kernel
theorem dX8_image_13 : decode cX8_image 13 = .ok (.iload_n 1, 1) := by decide +kernel
theorem dX8_image_14 : decode cX8_image 14 = .ok (.aload_n 0, 1) := by decide +kernel
theorem dX8_image_15 : decode cX8_image 15 = .ok (.iload_n 1, 1) := by decide +kernel
theorem dX8_image_16 : decode cX8_image 16 = .ok (.iconst 0, 1) := by decide +kernel
theorem dX8_image_17 : decode cX8_image 17 = .ok (.iconst 0, 1) := by decide +kernel
theorem dX8_image_18 : decode cX8_image 18 = .ok (.invokevirtual 231, 3) := by decide +kernel
theorem dX8_image_21 : decode cX8_image 21 = .ok (.iastore, 1) := by decide +kernel
theorem dX8_image_22 : decode cX8_image 22 = .ok (.iinc 1 1, 3) := by decide +kernel
theorem dX8_image_25 : decode cX8_image 25 = .ok (.goto (-23), 3) := by decide +kernel
theorem dX8_image_28 : decode cX8_image 28 = .ok (.aload_n 0, 1) := by decide +kernel
theorem dX8_image_29 : decode cX8_image 29 = .ok (.getfield 59, 3) := by decide +kernel
theorem dX8_image_32 : decode cX8_image 32 = .ok (.iconst 0, 1) := by decide +kernel
theorem dX8_image_33 : decode cX8_image 33 = .ok (.aload_n 0, 1) := by decide +kernel
theorem dX8_image_34 : decode cX8_image 34 = .ok (.getfield 71, 3) := by decide +kernel
theorem dX8_image_37 : decode cX8_image 37 = .ok (.iastore, 1) := by decide +kernel
theorem dX8_image_38 : decode cX8_image 38 = .ok (.aload_n 0, 1) := by decide +kernel
theorem dX8_image_39 : decode cX8_image 39 = .ok (.getfield 59, 3) := by decide +kernel
theorem dX8_image_42 : decode cX8_image 42 = .ok (.iconst 1, 1) := by decide +kernel
theorem dX8_image_43 : decode cX8_image 43 = .ok (.aload_n 0, 1) := by decide +kernel
theorem dX8_image_44 : decode cX8_image 44 = .ok (.getfield 83, 3) := by decide +kernel
theorem dX8_image_47 : decode cX8_image 47 = .ok (.iastore, 1) := by decide +kernel
theorem dX8_image_48 : decode cX8_image 48 = .ok (.aload_n 0, 1) := by decide +kernel
theorem dX8_image_49 : decode cX8_image 49 = .ok (.iconst 1, 1) := by decide +kernel
theorem dX8_image_50 : decode cX8_image 50 = .ok (.putfield 235, 3) := by decide +kernel
theorem dX8_image_53 : decode cX8_image 53 = .ok (.iconst 1, 1) := by decide +kernel
theorem dX8_image_54 : decode cX8_image 54 = .ok (.ireturn, 1) := by decide +kernel
theorem dX8_restore_0 : decode cX8_restore 0 = .ok (.aload_n 0, 1) := by decide +kernel
theorem dX8_restore_1 : decode cX8_restore 1 = .ok (.getfield 235, 3) := by decide +kernel
theorem dX8_restore_4 : decode cX8_restore 4 = .ok (.ifCond .ne 6, 3) := by decide +kernel
theorem dX8_restore_7 : decode cX8_restore 7 = .ok (.bipush (-4), 2) := by decide +kernel
theorem dX8_restore_9 : decode cX8_restore 9 = .ok (.ireturn, 1) := by decide +kernel
theorem dX8_restore_10 : decode cX8_restore 10 = .ok (.iconst 0, 1) := by decide +kernel
theorem dX8_restore_11 : decode cX8_restore 11 = .ok (.istore_n 1, 1) := by decide +kernel
theorem dX8_restore_12 : decode cX8_restore 12 = .ok (.iload_n 1, 1) := by decide +kernel
theorem dX8_restore_13 : decode cX8_restore 13 = .ok (.sipush 270, 3) := by decide +kernel
theorem dX8_restore_16 : decode cX8_restore 16 = .ok (.if_icmp .ge 22, 3) := by decide +kernel
theorem dX8_restore_19 : decode cX8_restore 19 = .ok (.aload_n 0, 1) := by decide +kernel
theorem dX8_restore_20 : decode cX8_restore 20 = .ok (.iload_n 1, 1) := by decide +kernel
theorem dX8_restore_21 : decode cX8_restore 21 = .ok (.aload_n 0, 1) := by decide +kernel
theorem dX8_restore_22 : decode cX8_restore 22 = .ok (.getfield 56, 3) := by decide +kernel
theorem dX8_restore_25 : decode cX8_restore 25 = .ok (.iload_n 1, 1) := by decide +kernel
theorem dX8_restore_26 : decode cX8_restore 26 = .ok (.iaload, 1) := by decide +kernel
theorem dX8_restore_27 : decode cX8_restore 27 = .ok (.iconst 1, 1) := by decide +kernel
theorem dX8_restore_28 : decode cX8_restore 28 = .ok (.invokevirtual 231, 3) := by decide +kernel
theorem dX8_restore_31 : decode cX8_restore 31 = .ok (.pop, 1) := by decide +kernel
theorem dX8_restore_32 : decode cX8_restore 32 = .ok (.iinc 1 1, 3) := by decide +kernel
theorem dX8_restore_35 : decode cX8_restore 35 = .ok (.goto (-23), 3) := by decide +kernel
theorem dX8_restore_38 : decode cX8_restore 38 = .ok (.aload_n 0, 1) := by decide +kernel
theorem dX8_restore_39 : decode cX8_restore 39 = .ok (.aload_n 0, 1) := by decide +kernel
theorem dX8_restore_40 : decode cX8_restore 40 = .ok (.getfield 59, 3) := by decide +kernel
theorem dX8_restore_43 : decode cX8_restore 43 = .ok (.iconst 0, 1) := by decide +kernel
theorem dX8_restore_44 : decode cX8_restore 44 = .ok (.iaload, 1) := by decide +kernel
theorem dX8_restore_45 : decode cX8_restore 45 = .ok (.putfield 71, 3) := by decide +kernel
theorem dX8_restore_48 : decode cX8_restore 48 = .ok (.aload_n 0, 1) := by decide +kernel
theorem dX8_restore_49 : decode cX8_restore 49 = .ok (.aload_n 0, 1) := by decide +kernel
theorem dX8_restore_50 : decode cX8_restore 50 = .ok (.getfield 59, 3) := by decide +kernel
theorem dX8_restore_53 : decode cX8_restore 53 = .ok (.iconst 1, 1) := by decide +kernel
theorem dX8_restore_54 : decode cX8_restore 54 = .ok (.iaload, 1) := by decide +kernel
theorem dX8_restore_55 : decode cX8_restore 55 = .ok (.putfield 83, 3) := by decide +kernel
theorem dX8_restore_58 : decode cX8_restore 58 = .ok (.iconst 1, 1) := by decide +kernel
theorem dX8_restore_59 : decode cX8_restore 59 = .ok (.ireturn, 1) := by decide +kernel
theorem dX8_isSheet_0 : decode cX8_isSheet 0 = .ok (.iload_n 0, 1) := by decide +kernel
theorem dX8_isSheet_1 : decode cX8_isSheet 1 = .ok (.i2l, 1) := by decide +kernel
theorem dX8_isSheet_2 : decode cX8_isSheet 2 = .ok (.lconst 0, 1) := by decide +kernel
theorem dX8_isSheet_3 : decode cX8_isSheet 3 = .ok (.ldc2_w 92, 3) := by decide +kernel
theorem dX8_isSheet_6 : decode cX8_isSheet 6 = .ok (.invokestatic 75, 3) := by decide +kernel
theorem dX8_isSheet_9 : decode cX8_isSheet 9 = .ok (.ifCond .eq 19, 3) := by decide +kernel
theorem dX8_isSheet_12 : decode cX8_isSheet 12 = .ok (.iload_n 1, 1) := by decide +kernel
theorem dX8_isSheet_13 : decode cX8_isSheet 13 = .ok (.i2l, 1) := by decide +kernel
theorem dX8_isSheet_14 : decode cX8_isSheet 14 = .ok (.lconst 0, 1) := by decide +kernel
theorem dX8_isSheet_15 : decode cX8_isSheet 15 = .ok (.ldc2_w 239, 3) := by decide +kernel
theorem dX8_isSheet_18 : decode cX8_isSheet 18 = .ok (.invokestatic 75, 3) := by decide +kernel
theorem dX8_isSheet_21 : decode cX8_isSheet 21 = .ok (.ifCond .eq 7, 3) := by decide +kernel
theorem dX8_isSheet_24 : decode cX8_isSheet 24 = .ok (.iconst 1, 1) := by decide +kernel
theorem dX8_isSheet_25 : decode cX8_isSheet 25 = .ok (.goto 4, 3) := by decide +kernel
theorem dX8_isSheet_28 : decode cX8_isSheet 28 = .ok (.iconst 0, 1) := by decide +kernel
theorem dX8_isSheet_29 : decode cX8_isSheet 29 = .ok (.ireturn, 1) := by decide +kernel
theorem dX8_sheet_0 : decode cX8_sheet 0 = .ok (.iload_n 1, 1) := by decide +kernel
theorem dX8_sheet_1 : decode cX8_sheet 1 = .ok (.iload_n 2, 1) := by decide +kernel
theorem dX8_sheet_2 : decode cX8_sheet 2 = .ok (.invokestatic 241, 3) := by decide +kernel
theorem dX8_sheet_5 : decode cX8_sheet 5 = .ok (.ifCond .eq 9, 3) := by decide +kernel
theorem dX8_sheet_8 : decode cX8_sheet 8 = .ok (.iload_n 3, 1) := by decide +kernel
theorem dX8_sheet_9 : decode cX8_sheet 9 = .ok (.bipush 24, 2) := by decide +kernel
theorem dX8_sheet_11 : decode cX8_sheet 11 = .ok (.if_icmp .le 5, 3) := by decide +kernel
theorem dX8_sheet_14 : decode cX8_sheet 14 = .ok (.iconst (-1), 1) := by decide +kernel
theorem dX8_sheet_15 : decode cX8_sheet 15 = .ok (.ireturn, 1) := by decide +kernel
theorem dX8_sheet_16 : decode cX8_sheet 16 = .ok (.iload_n 3, 1) := by decide +kernel
theorem dX8_sheet_17 : decode cX8_sheet 17 = .ok (.ifCond .ge 6, 3) := by decide +kernel
theorem dX8_sheet_20 : decode cX8_sheet 20 = .ok (.bipush (-14), 2) := by decide +kernel
theorem dX8_sheet_22 : decode cX8_sheet 22 = .ok (.ireturn, 1) := by decide +kernel
theorem dX8_sheet_23 : decode cX8_sheet 23 = .ok (.aload_n 0, 1) := by decide +kernel
theorem dX8_sheet_24 : decode cX8_sheet 24 = .ok (.getfield 62, 3) := by decide +kernel
theorem dX8_sheet_27 : decode cX8_sheet 27 = .ok (.iload_n 1, 1) := by decide +kernel
theorem dX8_sheet_28 : decode cX8_sheet 28 = .ok (.iload_n 2, 1) := by decide +kernel
theorem dX8_sheet_29 : decode cX8_sheet 29 = .ok (.iastore, 1) := by decide +kernel
theorem dX8_sheet_30 : decode cX8_sheet 30 = .ok (.aload_n 0, 1) := by decide +kernel
theorem dX8_sheet_31 : decode cX8_sheet 31 = .ok (.getfield 65, 3) := by decide +kernel
theorem dX8_sheet_34 : decode cX8_sheet 34 = .ok (.iload_n 1, 1) := by decide +kernel
theorem dX8_sheet_35 : decode cX8_sheet 35 = .ok (.iload_n 3, 1) := by decide +kernel
theorem dX8_sheet_36 : decode cX8_sheet 36 = .ok (.iastore, 1) := by decide +kernel
theorem dX8_sheet_37 : decode cX8_sheet 37 = .ok (.iconst 0, 1) := by decide +kernel
theorem dX8_sheet_38 : decode cX8_sheet 38 = .ok (.istore 4, 2) := by decide +kernel
theorem dX8_sheet_40 : decode cX8_sheet 40 = .ok (.iload 4, 2) := by decide +kernel
theorem dX8_sheet_42 : decode cX8_sheet 42 = .ok (.bipush 24, 2) := by decide +kernel
theorem dX8_sheet_44 : decode cX8_sheet 44 = .ok (.if_icmp .ge 22, 3) := by decide +kernel
theorem dX8_sheet_47 : decode cX8_sheet 47 = .ok (.aload_n 0, 1) := by decide +kernel
theorem dX8_sheet_48 : decode cX8_sheet 48 = .ok (.getfield 68, 3) := by decide +kernel
theorem dX8_sheet_51 : decode cX8_sheet 51 = .ok (.bipush 24, 2) := by decide +kernel
theorem dX8_sheet_53 : decode cX8_sheet 53 = .ok (.iload_n 1, 1) := by decide +kernel
theorem dX8_sheet_54 : decode cX8_sheet 54 = .ok (.imul, 1) := by decide +kernel
theorem dX8_sheet_55 : decode cX8_sheet 55 = .ok (.iload 4, 2) := by decide +kernel
theorem dX8_sheet_57 : decode cX8_sheet 57 = .ok (.iadd, 1) := by decide +kernel
theorem dX8_sheet_58 : decode cX8_sheet 58 = .ok (.iconst 0, 1) := by decide +kernel
theorem dX8_sheet_59 : decode cX8_sheet 59 = .ok (.iastore, 1) := by decide +kernel
theorem dX8_sheet_60 : decode cX8_sheet 60 = .ok (.iinc 4 1, 3) := by decide +kernel
theorem dX8_sheet_63 : decode cX8_sheet 63 = .ok (.goto (-23), 3) := by decide +kernel
theorem dX8_sheet_66 : decode cX8_sheet 66 = .ok (.iload_n 3, 1) := by decide +kernel
theorem dX8_sheet_67 : decode cX8_sheet 67 = .ok (.ireturn, 1) := by decide +kernel
theorem dX8_drop_0 : decode cX8_drop 0 = .ok (.iload_n 1, 1) := by decide +kernel
theorem dX8_drop_1 : decode cX8_drop 1 = .ok (.i2l, 1) := by decide +kernel
theorem dX8_drop_2 : decode cX8_drop 2 = .ok (.lconst 0, 1) := by decide +kernel
theorem dX8_drop_3 : decode cX8_drop 3 = .ok (.ldc2_w 92, 3) := by decide +kernel
theorem dX8_drop_6 : decode cX8_drop 6 = .ok (.invokestatic 75, 3) := by decide +kernel
theorem dX8_drop_9 : decode cX8_drop 9 = .ok (.ifCond .ne 5, 3) := by decide +kernel
theorem dX8_drop_12 : decode cX8_drop 12 = .ok (.iconst (-1), 1) := by decide +kernel
theorem dX8_drop_13 : decode cX8_drop 13 = .ok (.ireturn, 1) := by decide +kernel
theorem dX8_drop_14 : decode cX8_drop 14 = .ok (.aload_n 0, 1) := by decide +kernel
theorem dX8_drop_15 : decode cX8_drop 15 = .ok (.getfield 62, 3) := by decide +kernel
theorem dX8_drop_18 : decode cX8_drop 18 = .ok (.iload_n 1, 1) := by decide +kernel
theorem dX8_drop_19 : decode cX8_drop 19 = .ok (.iaload, 1) := by decide +kernel
theorem dX8_drop_20 : decode cX8_drop 20 = .ok (.ifCond .ge 6, 3) := by decide +kernel
theorem dX8_drop_23 : decode cX8_drop 23 = .ok (.bipush (-11), 2) := by decide +kernel
theorem dX8_drop_25 : decode cX8_drop 25 = .ok (.ireturn, 1) := by decide +kernel
theorem dX8_drop_26 : decode cX8_drop 26 = .ok (.aload_n 0, 1) := by decide +kernel
theorem dX8_drop_27 : decode cX8_drop 27 = .ok (.getfield 62, 3) := by decide +kernel
theorem dX8_drop_30 : decode cX8_drop 30 = .ok (.iload_n 1, 1) := by decide +kernel
theorem dX8_drop_31 : decode cX8_drop 31 = .ok (.iconst (-1), 1) := by decide +kernel
theorem dX8_drop_32 : decode cX8_drop 32 = .ok (.iastore, 1) := by decide +kernel
theorem dX8_drop_33 : decode cX8_drop 33 = .ok (.aload_n 0, 1) := by decide +kernel
theorem dX8_drop_34 : decode cX8_drop 34 = .ok (.getfield 65, 3) := by decide +kernel
theorem dX8_drop_37 : decode cX8_drop 37 = .ok (.iload_n 1, 1) := by decide +kernel
theorem dX8_drop_38 : decode cX8_drop 38 = .ok (.iaload, 1) := by decide +kernel
theorem dX8_drop_39 : decode cX8_drop 39 = .ok (.ireturn, 1) := by decide +kernel
theorem dX8_lacksRow_0 : decode cX8_lacksRow 0 = .ok (.aload_n 0, 1) := by decide +kernel
theorem dX8_lacksRow_1 : decode cX8_lacksRow 1 = .ok (.getfield 62, 3) := by decide +kernel
theorem dX8_lacksRow_4 : decode cX8_lacksRow 4 = .ok (.iload_n 1, 1) := by decide +kernel
theorem dX8_lacksRow_5 : decode cX8_lacksRow 5 = .ok (.iaload, 1) := by decide +kernel
theorem dX8_lacksRow_6 : decode cX8_lacksRow 6 = .ok (.iload_n 2, 1) := by decide +kernel
theorem dX8_lacksRow_7 : decode cX8_lacksRow 7 = .ok (.if_icmp .eq 20, 3) := by decide +kernel
theorem dX8_lacksRow_10 : decode cX8_lacksRow 10 = .ok (.aload_n 0, 1) := by decide +kernel
theorem dX8_lacksRow_11 : decode cX8_lacksRow 11 = .ok (.getfield 62, 3) := by decide +kernel
theorem dX8_lacksRow_14 : decode cX8_lacksRow 14 = .ok (.iload_n 1, 1) := by decide +kernel
theorem dX8_lacksRow_15 : decode cX8_lacksRow 15 = .ok (.iaload, 1) := by decide +kernel
theorem dX8_lacksRow_16 : decode cX8_lacksRow 16 = .ok (.ifCond .ge 8, 3) := by decide +kernel
theorem dX8_lacksRow_19 : decode cX8_lacksRow 19 = .ok (.bipush (-11), 2) := by decide +kernel
theorem dX8_lacksRow_21 : decode cX8_lacksRow 21 = .ok (.goto 5, 3) := by decide +kernel
theorem dX8_lacksRow_24 : decode cX8_lacksRow 24 = .ok (.bipush (-12), 2) := by decide +kernel
theorem dX8_lacksRow_26 : decode cX8_lacksRow 26 = .ok (.ireturn, 1) := by decide +kernel
theorem dX8_lacksRow_27 : decode cX8_lacksRow 27 = .ok (.iload_n 3, 1) := by decide +kernel
theorem dX8_lacksRow_28 : decode cX8_lacksRow 28 = .ok (.i2l, 1) := by decide +kernel
theorem dX8_lacksRow_29 : decode cX8_lacksRow 29 = .ok (.lconst 0, 1) := by decide +kernel
