theorem dX9_readNumber_21 : decode cX9_readNumber 21 = .ok (.if_icmp .ge 71, 3) := by decide +kernel
theorem dX9_readNumber_24 : decode cX9_readNumber 24 = .ok (.aload_n 0, 1) := by decide +kernel
theorem dX9_readNumber_25 : decode cX9_readNumber 25 = .ok (.getfield 31, 3) := by decide +kernel
theorem dX9_readNumber_28 : decode cX9_readNumber 28 = .ok (.aload_n 0, 1) := by decide +kernel
theorem dX9_readNumber_29 : decode cX9_readNumber 29 = .ok (.getfield 144, 3) := by decide +kernel
theorem dX9_readNumber_32 : decode cX9_readNumber 32 = .ok (.iaload, 1) := by decide +kernel
theorem dX9_readNumber_33 : decode cX9_readNumber 33 = .ok (.i2l, 1) := by decide +kernel
theorem dX9_readNumber_34 : decode cX9_readNumber 34 = .ok (.ldc2_w 151, 3) := by decide +kernel
theorem dX9_readNumber_37 : decode cX9_readNumber 37 = .ok (.ldc2_w 153, 3) := by decide +kernel
theorem dX9_readNumber_40 : decode cX9_readNumber 40 = .ok (.invokestatic 75, 3) := by decide +kernel
theorem dX9_readNumber_43 : decode cX9_readNumber 43 = .ok (.ifCond .eq 49, 3) := by decide +kernel
theorem dX9_readNumber_46 : decode cX9_readNumber 46 = .ok (.iload 4, 2) := by decide +kernel
theorem dX9_readNumber_48 : decode cX9_readNumber 48 = .ok (.sipush 999, 3) := by decide +kernel
theorem dX9_readNumber_51 : decode cX9_readNumber 51 = .ok (.if_icmp .le 8, 3) := by decide +kernel
theorem dX9_readNumber_54 : decode cX9_readNumber 54 = .ok (.iload 4, 2) := by decide +kernel
theorem dX9_readNumber_56 : decode cX9_readNumber 56 = .ok (.goto 21, 3) := by decide +kernel
theorem dX9_readNumber_59 : decode cX9_readNumber 59 = .ok (.bipush 10, 2) := by decide +kernel
theorem dX9_readNumber_61 : decode cX9_readNumber 61 = .ok (.iload 4, 2) := by decide +kernel
theorem dX9_readNumber_63 : decode cX9_readNumber 63 = .ok (.imul, 1) := by decide +kernel
theorem dX9_readNumber_64 : decode cX9_readNumber 64 = .ok (.aload_n 0, 1) := by decide +kernel
theorem dX9_readNumber_65 : decode cX9_readNumber 65 = .ok (.getfield 31, 3) := by decide +kernel
theorem dX9_readNumber_68 : decode cX9_readNumber 68 = .ok (.aload_n 0, 1) := by decide +kernel
theorem dX9_readNumber_69 : decode cX9_readNumber 69 = .ok (.getfield 144, 3) := by decide +kernel
theorem dX9_readNumber_72 : decode cX9_readNumber 72 = .ok (.iaload, 1) := by decide +kernel
theorem dX9_readNumber_73 : decode cX9_readNumber 73 = .ok (.iadd, 1) := by decide +kernel
theorem dX9_readNumber_74 : decode cX9_readNumber 74 = .ok (.bipush 48, 2) := by decide +kernel
theorem dX9_readNumber_76 : decode cX9_readNumber 76 = .ok (.isub, 1) := by decide +kernel
theorem dX9_readNumber_77 : decode cX9_readNumber 77 = .ok (.istore 4, 2) := by decide +kernel
theorem dX9_readNumber_79 : decode cX9_readNumber 79 = .ok (.aload_n 0, 1) := by decide +kernel
theorem dX9_readNumber_80 : decode cX9_readNumber 80 = .ok (.dup, 1) := by decide +kernel
theorem dX9_readNumber_81 : decode cX9_readNumber 81 = .ok (.getfield 144, 3) := by decide +kernel
theorem dX9_readNumber_84 : decode cX9_readNumber 84 = .ok (.iconst 1, 1) := by decide +kernel
theorem dX9_readNumber_85 : decode cX9_readNumber 85 = .ok (.iadd, 1) := by decide +kernel
theorem dX9_readNumber_86 : decode cX9_readNumber 86 = .ok (.putfield 144, 3) := by decide +kernel
theorem dX9_readNumber_89 : decode cX9_readNumber 89 = .ok (.goto (-76), 3) := by decide +kernel
theorem dX9_readNumber_92 : decode cX9_readNumber 92 = .ok (.aload_n 0, 1) := by decide +kernel
theorem dX9_readNumber_93 : decode cX9_readNumber 93 = .ok (.getfield 144, 3) := by decide +kernel
theorem dX9_readNumber_96 : decode cX9_readNumber 96 = .ok (.iload_n 3, 1) := by decide +kernel
theorem dX9_readNumber_97 : decode cX9_readNumber 97 = .ok (.if_icmp .ne 5, 3) := by decide +kernel
theorem dX9_readNumber_100 : decode cX9_readNumber 100 = .ok (.iconst (-1), 1) := by decide +kernel
theorem dX9_readNumber_101 : decode cX9_readNumber 101 = .ok (.ireturn, 1) := by decide +kernel
theorem dX9_readNumber_102 : decode cX9_readNumber 102 = .ok (.iload 4, 2) := by decide +kernel
theorem dX9_readNumber_104 : decode cX9_readNumber 104 = .ok (.i2l, 1) := by decide +kernel
theorem dX9_readNumber_105 : decode cX9_readNumber 105 = .ok (.iload_n 1, 1) := by decide +kernel
theorem dX9_readNumber_106 : decode cX9_readNumber 106 = .ok (.i2l, 1) := by decide +kernel
theorem dX9_readNumber_107 : decode cX9_readNumber 107 = .ok (.iload_n 2, 1) := by decide +kernel
theorem dX9_readNumber_108 : decode cX9_readNumber 108 = .ok (.i2l, 1) := by decide +kernel
theorem dX9_readNumber_109 : decode cX9_readNumber 109 = .ok (.invokestatic 75, 3) := by decide +kernel
theorem dX9_readNumber_112 : decode cX9_readNumber 112 = .ok (.ifCond .ne 10, 3) := by decide +kernel
theorem dX9_readNumber_115 : decode cX9_readNumber 115 = .ok (.aload_n 0, 1) := by decide +kernel
theorem dX9_readNumber_116 : decode cX9_readNumber 116 = .ok (.iload_n 3, 1) := by decide +kernel
theorem dX9_readNumber_117 : decode cX9_readNumber 117 = .ok (.putfield 144, 3) := by decide +kernel
theorem dX9_readNumber_120 : decode cX9_readNumber 120 = .ok (.iconst (-1), 1) := by decide +kernel
theorem dX9_readNumber_121 : decode cX9_readNumber 121 = .ok (.ireturn, 1) := by decide +kernel
theorem dX9_readNumber_122 : decode cX9_readNumber 122 = .ok (.iload 4, 2) := by decide +kernel
theorem dX9_readNumber_124 : decode cX9_readNumber 124 = .ok (.ireturn, 1) := by decide +kernel
theorem dX9_strips_0 : decode cX9_strips 0 = .ok (.aload_n 0, 1) := by decide +kernel
theorem dX9_strips_1 : decode cX9_strips 1 = .ok (.iconst 0, 1) := by decide +kernel
theorem dX9_strips_2 : decode cX9_strips 2 = .ok (.putfield 144, 3) := by decide +kernel
theorem dX9_strips_5 : decode cX9_strips 5 = .ok (.aload_n 0, 1) := by decide +kernel
theorem dX9_strips_6 : decode cX9_strips 6 = .ok (.iconst 0, 1) := by decide +kernel
theorem dX9_strips_7 : decode cX9_strips 7 = .ok (.putfield 155, 3) := by decide +kernel
theorem dX9_strips_10 : decode cX9_strips 10 = .ok (.aload_n 0, 1) := by decide +kernel
theorem dX9_strips_11 : decode cX9_strips 11 = .ok (.getfield 155, 3) := by decide +kernel
theorem dX9_strips_14 : decode cX9_strips 14 = .ok (.bipush 9, 2) := by decide +kernel
theorem dX9_strips_16 : decode cX9_strips 16 = .ok (.if_icmp .ge 59, 3) := by decide +kernel
theorem dX9_strips_19 : decode cX9_strips 19 = .ok (.aload_n 0, 1) := by decide +kernel
theorem dX9_strips_20 : decode cX9_strips 20 = .ok (.invokevirtual 147, 3) := by decide +kernel
theorem dX9_strips_23 : decode cX9_strips 23 = .ok (.i2l, 1) := by decide +kernel
theorem dX9_strips_24 : decode cX9_strips 24 = .ok (.ldc2_w 151, 3) := by decide +kernel
theorem dX9_strips_27 : decode cX9_strips 27 = .ok (.ldc2_w 158, 3) := by decide +kernel
theorem dX9_strips_30 : decode cX9_strips 30 = .ok (.invokestatic 75, 3) := by decide +kernel
theorem dX9_strips_33 : decode cX9_strips 33 = .ok (.ifCond .eq 42, 3) := by decide +kernel
theorem dX9_strips_36 : decode cX9_strips 36 = .ok (.aload_n 0, 1) := by decide +kernel
theorem dX9_strips_37 : decode cX9_strips 37 = .ok (.getfield 34, 3) := by decide +kernel
theorem dX9_strips_40 : decode cX9_strips 40 = .ok (.aload_n 0, 1) := by decide +kernel
theorem dX9_strips_41 : decode cX9_strips 41 = .ok (.getfield 155, 3) := by decide +kernel
theorem dX9_strips_44 : decode cX9_strips 44 = .ok (.aload_n 0, 1) := by decide +kernel
theorem dX9_strips_45 : decode cX9_strips 45 = .ok (.invokevirtual 147, 3) := by decide +kernel
theorem dX9_strips_48 : decode cX9_strips 48 = .ok (.bipush 48, 2) := by decide +kernel
theorem dX9_strips_50 : decode cX9_strips 50 = .ok (.isub, 1) := by decide +kernel
theorem dX9_strips_51 : decode cX9_strips 51 = .ok (.iastore, 1) := by decide +kernel
theorem dX9_strips_52 : decode cX9_strips 52 = .ok (.aload_n 0, 1) := by decide +kernel
theorem dX9_strips_53 : decode cX9_strips 53 = .ok (.dup, 1) := by decide +kernel
theorem dX9_strips_54 : decode cX9_strips 54 = .ok (.getfield 155, 3) := by decide +kernel
theorem dX9_strips_57 : decode cX9_strips 57 = .ok (.iconst 1, 1) := by decide +kernel
theorem dX9_strips_58 : decode cX9_strips 58 = .ok (.iadd, 1) := by decide +kernel
theorem dX9_strips_59 : decode cX9_strips 59 = .ok (.putfield 155, 3) := by decide +kernel
theorem dX9_strips_62 : decode cX9_strips 62 = .ok (.aload_n 0, 1) := by decide +kernel
theorem dX9_strips_63 : decode cX9_strips 63 = .ok (.dup, 1) := by decide +kernel
theorem dX9_strips_64 : decode cX9_strips 64 = .ok (.getfield 144, 3) := by decide +kernel
theorem dX9_strips_67 : decode cX9_strips 67 = .ok (.iconst 1, 1) := by decide +kernel
theorem dX9_strips_68 : decode cX9_strips 68 = .ok (.iadd, 1) := by decide +kernel
theorem dX9_strips_69 : decode cX9_strips 69 = .ok (.putfield 144, 3) := by decide +kernel
theorem dX9_strips_72 : decode cX9_strips 72 = .ok (.goto (-62), 3) := by decide +kernel
theorem dX9_strips_75 : decode cX9_strips 75 = .ok (.aload_n 0, 1) := by decide +kernel
theorem dX9_strips_76 : decode cX9_strips 76 = .ok (.getfield 155, 3) := by decide +kernel
theorem dX9_strips_79 : decode cX9_strips 79 = .ok (.ifCond .le 14, 3) := by decide +kernel
theorem dX9_strips_82 : decode cX9_strips 82 = .ok (.aload_n 0, 1) := by decide +kernel
theorem dX9_strips_83 : decode cX9_strips 83 = .ok (.invokevirtual 147, 3) := by decide +kernel
theorem dX9_strips_86 : decode cX9_strips 86 = .ok (.ifCond .ge 7, 3) := by decide +kernel
theorem dX9_strips_89 : decode cX9_strips 89 = .ok (.iconst 1, 1) := by decide +kernel
theorem dX9_strips_90 : decode cX9_strips 90 = .ok (.goto 4, 3) := by decide +kernel
theorem dX9_strips_93 : decode cX9_strips 93 = .ok (.iconst 0, 1) := by decide +kernel
theorem dX9_strips_94 : decode cX9_strips 94 = .ok (.istore_n 1, 1) := by decide +kernel
theorem dX9_strips_95 : decode cX9_strips 95 = .ok (.aload_n 0, 1) := by decide +kernel
theorem dX9_strips_96 : decode cX9_strips 96 = .ok (.iconst 0, 1) := by decide +kernel
theorem dX9_strips_97 : decode cX9_strips 97 = .ok (.putfield 141, 3) := by decide +kernel
theorem dX9_strips_100 : decode cX9_strips 100 = .ok (.iload_n 1, 1) := by decide +kernel
theorem dX9_strips_101 : decode cX9_strips 101 = .ok (.ifCond .ne 11, 3) := by decide +kernel
theorem dX9_strips_104 : decode cX9_strips 104 = .ok (.bipush (-20), 2) := by decide +kernel
theorem dX9_strips_106 : decode cX9_strips 106 = .ok (.aload_n 0, 1) := by decide +kernel
theorem dX9_strips_107 : decode cX9_strips 107 = .ok (.getfield 144, 3) := by decide +kernel
theorem dX9_strips_110 : decode cX9_strips 110 = .ok (.isub, 1) := by decide +kernel
theorem dX9_strips_111 : decode cX9_strips 111 = .ok (.ireturn, 1) := by decide +kernel
theorem dX9_strips_112 : decode cX9_strips 112 = .ok (.aload_n 0, 1) := by decide +kernel
theorem dX9_strips_113 : decode cX9_strips 113 = .ok (.iconst 0, 1) := by decide +kernel
theorem dX9_strips_114 : decode cX9_strips 114 = .ok (.putfield 71, 3) := by decide +kernel
theorem dX9_strips_117 : decode cX9_strips 117 = .ok (.iconst 0, 1) := by decide +kernel
theorem dX9_strips_118 : decode cX9_strips 118 = .ok (.istore_n 2, 1) := by decide +kernel
theorem dX9_strips_119 : decode cX9_strips 119 = .ok (.iload_n 2, 1) := by decide +kernel
theorem dX9_strips_120 : decode cX9_strips 120 = .ok (.aload_n 0, 1) := by decide +kernel
theorem dX9_strips_121 : decode cX9_strips 121 = .ok (.getfield 155, 3) := by decide +kernel
theorem dX9_strips_124 : decode cX9_strips 124 = .ok (.if_icmp .ge 19, 3) := by decide +kernel
theorem dX9_strips_127 : decode cX9_strips 127 = .ok (.aload_n 0, 1) := by decide +kernel
theorem dX9_strips_128 : decode cX9_strips 128 = .ok (.aload_n 0, 1) := by decide +kernel
theorem dX9_strips_129 : decode cX9_strips 129 = .ok (.getfield 34, 3) := by decide +kernel
theorem dX9_strips_132 : decode cX9_strips 132 = .ok (.iload_n 2, 1) := by decide +kernel
theorem dX9_strips_133 : decode cX9_strips 133 = .ok (.iaload, 1) := by decide +kernel
theorem dX9_strips_134 : decode cX9_strips 134 = .ok (.invokevirtual 88, 3) := by decide +kernel
theorem dX9_strips_137 : decode cX9_strips 137 = .ok (.iinc 2 1, 3) := by decide +kernel
theorem dX9_strips_140 : decode cX9_strips 140 = .ok (.goto (-21), 3) := by decide +kernel
theorem dX9_strips_143 : decode cX9_strips 143 = .ok (.aload_n 0, 1) := by decide +kernel
theorem dX9_strips_144 : decode cX9_strips 144 = .ok (.getfield 71, 3) := by decide +kernel
theorem dX9_strips_147 : decode cX9_strips 147 = .ok (.ireturn, 1) := by decide +kernel
theorem dX9_readWord_0 : decode cX9_readWord 0 = .ok (.iconst 0, 1) := by decide +kernel
theorem dX9_readWord_1 : decode cX9_readWord 1 = .ok (.istore_n 2, 1) := by decide +kernel
theorem dX9_readWord_2 : decode cX9_readWord 2 = .ok (.iload_n 2, 1) := by decide +kernel
theorem dX9_readWord_3 : decode cX9_readWord 3 = .ok (.bipush 6, 2) := by decide +kernel
theorem dX9_readWord_5 : decode cX9_readWord 5 = .ok (.if_icmp .ge 53, 3) := by decide +kernel
theorem dX9_readWord_8 : decode cX9_readWord 8 = .ok (.aload_n 0, 1) := by decide +kernel
theorem dX9_readWord_9 : decode cX9_readWord 9 = .ok (.invokevirtual 147, 3) := by decide +kernel
theorem dX9_readWord_12 : decode cX9_readWord 12 = .ok (.i2l, 1) := by decide +kernel
theorem dX9_readWord_13 : decode cX9_readWord 13 = .ok (.ldc2_w 160, 3) := by decide +kernel
theorem dX9_readWord_16 : decode cX9_readWord 16 = .ok (.ldc2_w 162, 3) := by decide +kernel
theorem dX9_readWord_19 : decode cX9_readWord 19 = .ok (.invokestatic 75, 3) := by decide +kernel
theorem dX9_readWord_22 : decode cX9_readWord 22 = .ok (.ifCond .eq 36, 3) := by decide +kernel
theorem dX9_readWord_25 : decode cX9_readWord 25 = .ok (.aload_n 0, 1) := by decide +kernel
theorem dX9_readWord_26 : decode cX9_readWord 26 = .ok (.getfield 34, 3) := by decide +kernel
theorem dX9_readWord_29 : decode cX9_readWord 29 = .ok (.iload_n 1, 1) := by decide +kernel
theorem dX9_readWord_30 : decode cX9_readWord 30 = .ok (.iconst 2, 1) := by decide +kernel
theorem dX9_readWord_31 : decode cX9_readWord 31 = .ok (.iadd, 1) := by decide +kernel
theorem dX9_readWord_32 : decode cX9_readWord 32 = .ok (.iload_n 2, 1) := by decide +kernel
theorem dX9_readWord_33 : decode cX9_readWord 33 = .ok (.iadd, 1) := by decide +kernel
theorem dX9_readWord_34 : decode cX9_readWord 34 = .ok (.aload_n 0, 1) := by decide +kernel
theorem dX9_readWord_35 : decode cX9_readWord 35 = .ok (.invokevirtual 147, 3) := by decide +kernel
theorem dX9_readWord_38 : decode cX9_readWord 38 = .ok (.bipush 97, 2) := by decide +kernel
theorem dX9_readWord_40 : decode cX9_readWord 40 = .ok (.isub, 1) := by decide +kernel
theorem dX9_readWord_41 : decode cX9_readWord 41 = .ok (.iastore, 1) := by decide +kernel
theorem dX9_readWord_42 : decode cX9_readWord 42 = .ok (.iinc 2 1, 3) := by decide +kernel
theorem dX9_readWord_45 : decode cX9_readWord 45 = .ok (.aload_n 0, 1) := by decide +kernel
theorem dX9_readWord_46 : decode cX9_readWord 46 = .ok (.dup, 1) := by decide +kernel
theorem dX9_readWord_47 : decode cX9_readWord 47 = .ok (.getfield 144, 3) := by decide +kernel
theorem dX9_readWord_50 : decode cX9_readWord 50 = .ok (.iconst 1, 1) := by decide +kernel
theorem dX9_readWord_51 : decode cX9_readWord 51 = .ok (.iadd, 1) := by decide +kernel
theorem dX9_readWord_52 : decode cX9_readWord 52 = .ok (.putfield 144, 3) := by decide +kernel
theorem dX9_readWord_55 : decode cX9_readWord 55 = .ok (.goto (-53), 3) := by decide +kernel
theorem dX9_readWord_58 : decode cX9_readWord 58 = .ok (.aload_n 0, 1) := by decide +kernel
theorem dX9_readWord_59 : decode cX9_readWord 59 = .ok (.getfield 34, 3) := by decide +kernel
theorem dX9_readWord_62 : decode cX9_readWord 62 = .ok (.iload_n 1, 1) := by decide +kernel
theorem dX9_readWord_63 : decode cX9_readWord 63 = .ok (.iload_n 2, 1) := by decide +kernel
theorem dX9_readWord_64 : decode cX9_readWord 64 = .ok (.iastore, 1) := by decide +kernel
theorem dX9_readWord_65 : decode cX9_readWord 65 = .ok (.aload_n 0, 1) := by decide +kernel
theorem dX9_readWord_66 : decode cX9_readWord 66 = .ok (.getfield 34, 3) := by decide +kernel
theorem dX9_readWord_69 : decode cX9_readWord 69 = .ok (.iload_n 1, 1) := by decide +kernel
theorem dX9_readWord_70 : decode cX9_readWord 70 = .ok (.iconst 1, 1) := by decide +kernel
theorem dX9_readWord_71 : decode cX9_readWord 71 = .ok (.iadd, 1) := by decide +kernel
theorem dX9_readWord_72 : decode cX9_readWord 72 = .ok (.bipush 10, 2) := by decide +kernel
theorem dX9_readWord_74 : decode cX9_readWord 74 = .ok (.iastore, 1) := by decide +kernel
theorem dX9_readWord_75 : decode cX9_readWord 75 = .ok (.iload_n 2, 1) := by decide +kernel
theorem dX9_readWord_76 : decode cX9_readWord 76 = .ok (.ifCond .ne 5, 3) := by decide +kernel
theorem dX9_readWord_79 : decode cX9_readWord 79 = .ok (.iconst 0, 1) := by decide +kernel
theorem dX9_readWord_80 : decode cX9_readWord 80 = .ok (.ireturn, 1) := by decide +kernel
theorem dX9_readWord_81 : decode cX9_readWord 81 = .ok (.aload_n 0, 1) := by decide +kernel
theorem dX9_readWord_82 : decode cX9_readWord 82 = .ok (.invokevirtual 147, 3) := by decide +kernel
theorem dX9_readWord_85 : decode cX9_readWord 85 = .ok (.bipush 58, 2) := by decide +kernel
theorem dX9_readWord_87 : decode cX9_readWord 87 = .ok (.if_icmp .ne 28, 3) := by decide +kernel
theorem dX9_readWord_90 : decode cX9_readWord 90 = .ok (.aload_n 0, 1) := by decide +kernel
theorem dX9_readWord_91 : decode cX9_readWord 91 = .ok (.dup, 1) := by decide +kernel
theorem dX9_readWord_92 : decode cX9_readWord 92 = .ok (.getfield 144, 3) := by decide +kernel
theorem dX9_readWord_95 : decode cX9_readWord 95 = .ok (.iconst 1, 1) := by decide +kernel
theorem dX9_readWord_96 : decode cX9_readWord 96 = .ok (.iadd, 1) := by decide +kernel
theorem dX9_readWord_97 : decode cX9_readWord 97 = .ok (.putfield 144, 3) := by decide +kernel
theorem dX9_readWord_100 : decode cX9_readWord 100 = .ok (.aload_n 0, 1) := by decide +kernel
theorem dX9_readWord_101 : decode cX9_readWord 101 = .ok (.getfield 34, 3) := by decide +kernel
theorem dX9_readWord_104 : decode cX9_readWord 104 = .ok (.iload_n 1, 1) := by decide +kernel
theorem dX9_readWord_105 : decode cX9_readWord 105 = .ok (.iconst 1, 1) := by decide +kernel
theorem dX9_readWord_106 : decode cX9_readWord 106 = .ok (.iadd, 1) := by decide +kernel
theorem dX9_readWord_107 : decode cX9_readWord 107 = .ok (.aload_n 0, 1) := by decide +kernel
theorem dX9_readWord_108 : decode cX9_readWord 108 = .ok (.iconst 0, 1) := by decide +kernel
theorem dX9_readWord_109 : decode cX9_readWord 109 = .ok (.bipush 99, 2) := by decide +kernel
theorem dX9_readWord_111 : decode cX9_readWord 111 = .ok (.invokevirtual 164, 3) := by decide +kernel
theorem dX9_readWord_114 : decode cX9_readWord 114 = .ok (.iastore, 1) := by decide +kernel
theorem dX9_readWord_115 : decode cX9_readWord 115 = .ok (.aload_n 0, 1) := by decide +kernel
theorem dX9_readWord_116 : decode cX9_readWord 116 = .ok (.getfield 34, 3) := by decide +kernel
theorem dX9_readWord_119 : decode cX9_readWord 119 = .ok (.iload_n 1, 1) := by decide +kernel
theorem dX9_readWord_120 : decode cX9_readWord 120 = .ok (.iconst 1, 1) := by decide +kernel
theorem dX9_readWord_121 : decode cX9_readWord 121 = .ok (.iadd, 1) := by decide +kernel
theorem dX9_readWord_122 : decode cX9_readWord 122 = .ok (.iaload, 1) := by decide +kernel
theorem dX9_readWord_123 : decode cX9_readWord 123 = .ok (.ifCond .lt 7, 3) := by decide +kernel
theorem dX9_readWord_126 : decode cX9_readWord 126 = .ok (.iconst 1, 1) := by decide +kernel
theorem dX9_readWord_127 : decode cX9_readWord 127 = .ok (.goto 4, 3) := by decide +kernel
theorem dX9_readWord_130 : decode cX9_readWord 130 = .ok (.iconst 0, 1) := by decide +kernel
theorem dX9_readWord_131 : decode cX9_readWord 131 = .ok (.ireturn, 1) := by decide +kernel
theorem dX9_readWords_0 : decode cX9_readWords 0 = .ok (.aload_n 0, 1) := by decide +kernel
theorem dX9_readWords_1 : decode cX9_readWords 1 = .ok (.iconst 0, 1) := by decide +kernel
theorem dX9_readWords_2 : decode cX9_readWords 2 = .ok (.putfield 144, 3) := by decide +kernel
theorem dX9_readWords_5 : decode cX9_readWords 5 = .ok (.iconst 0, 1) := by decide +kernel
theorem dX9_readWords_6 : decode cX9_readWords 6 = .ok (.istore_n 1, 1) := by decide +kernel
theorem dX9_readWords_7 : decode cX9_readWords 7 = .ok (.iload_n 1, 1) := by decide +kernel
theorem dX9_readWords_8 : decode cX9_readWords 8 = .ok (.iconst 4, 1) := by decide +kernel
theorem dX9_readWords_9 : decode cX9_readWords 9 = .ok (.if_icmp .ge 63, 3) := by decide +kernel
theorem dX9_readWords_12 : decode cX9_readWords 12 = .ok (.aload_n 0, 1) := by decide +kernel
theorem dX9_readWords_13 : decode cX9_readWords 13 = .ok (.bipush 8, 2) := by decide +kernel
theorem dX9_readWords_15 : decode cX9_readWords 15 = .ok (.iload_n 1, 1) := by decide +kernel
theorem dX9_readWords_16 : decode cX9_readWords 16 = .ok (.imul, 1) := by decide +kernel
theorem dX9_readWords_17 : decode cX9_readWords 17 = .ok (.invokevirtual 167, 3) := by decide +kernel
theorem dX9_readWords_20 : decode cX9_readWords 20 = .ok (.ifCond .ne 5, 3) := by decide +kernel
theorem dX9_readWords_23 : decode cX9_readWords 23 = .ok (.iconst 0, 1) := by decide +kernel
theorem dX9_readWords_24 : decode cX9_readWords 24 = .ok (.ireturn, 1) := by decide +kernel
theorem dX9_readWords_25 : decode cX9_readWords 25 = .ok (.aload_n 0, 1) := by decide +kernel
theorem dX9_readWords_26 : decode cX9_readWords 26 = .ok (.iload_n 1, 1) := by decide +kernel
theorem dX9_readWords_27 : decode cX9_readWords 27 = .ok (.iconst 1, 1) := by decide +kernel
theorem dX9_readWords_28 : decode cX9_readWords 28 = .ok (.iadd, 1) := by decide +kernel
theorem dX9_readWords_29 : decode cX9_readWords 29 = .ok (.putfield 155, 3) := by decide +kernel
theorem dX9_readWords_32 : decode cX9_readWords 32 = .ok (.aload_n 0, 1) := by decide +kernel
theorem dX9_readWords_33 : decode cX9_readWords 33 = .ok (.invokevirtual 147, 3) := by decide +kernel
theorem dX9_readWords_36 : decode cX9_readWords 36 = .ok (.istore_n 2, 1) := by decide +kernel
theorem dX9_readWords_37 : decode cX9_readWords 37 = .ok (.iload_n 2, 1) := by decide +kernel
theorem dX9_readWords_38 : decode cX9_readWords 38 = .ok (.ifCond .ge 5, 3) := by decide +kernel
theorem dX9_readWords_41 : decode cX9_readWords 41 = .ok (.iconst 1, 1) := by decide +kernel
theorem dX9_readWords_42 : decode cX9_readWords 42 = .ok (.ireturn, 1) := by decide +kernel
theorem dX9_readWords_43 : decode cX9_readWords 43 = .ok (.iload_n 2, 1) := by decide +kernel
theorem dX9_readWords_44 : decode cX9_readWords 44 = .ok (.bipush 44, 2) := by decide +kernel
theorem dX9_readWords_46 : decode cX9_readWords 46 = .ok (.if_icmp .ne 8, 3) := by decide +kernel
theorem dX9_readWords_49 : decode cX9_readWords 49 = .ok (.iload_n 1, 1) := by decide +kernel
theorem dX9_readWords_50 : decode cX9_readWords 50 = .ok (.iconst 3, 1) := by decide +kernel
theorem dX9_readWords_51 : decode cX9_readWords 51 = .ok (.if_icmp .ne 5, 3) := by decide +kernel
theorem dX9_readWords_54 : decode cX9_readWords 54 = .ok (.iconst 0, 1) := by decide +kernel
theorem dX9_readWords_55 : decode cX9_readWords 55 = .ok (.ireturn, 1) := by decide +kernel
theorem dX9_readWords_56 : decode cX9_readWords 56 = .ok (.aload_n 0, 1) := by decide +kernel
theorem dX9_readWords_57 : decode cX9_readWords 57 = .ok (.dup, 1) := by decide +kernel
theorem dX9_readWords_58 : decode cX9_readWords 58 = .ok (.getfield 144, 3) := by decide +kernel
theorem dX9_readWords_61 : decode cX9_readWords 61 = .ok (.iconst 1, 1) := by decide +kernel
theorem dX9_readWords_62 : decode cX9_readWords 62 = .ok (.iadd, 1) := by decide +kernel
theorem dX9_readWords_63 : decode cX9_readWords 63 = .ok (.putfield 144, 3) := by decide +kernel
theorem dX9_readWords_66 : decode cX9_readWords 66 = .ok (.iinc 1 1, 3) := by decide +kernel
theorem dX9_readWords_69 : decode cX9_readWords 69 = .ok (.goto (-62), 3) := by decide +kernel
theorem dX9_readWords_72 : decode cX9_readWords 72 = .ok (.iconst 0, 1) := by decide +kernel
theorem dX9_readWords_73 : decode cX9_readWords 73 = .ok (.ireturn, 1) := by decide +kernel
theorem dX9_words_0 : decode cX9_words 0 = .ok (.aload_n 0, 1) := by decide +kernel
theorem dX9_words_1 : decode cX9_words 1 = .ok (.invokevirtual 170, 3) := by decide +kernel
theorem dX9_words_4 : decode cX9_words 4 = .ok (.istore_n 1, 1) := by decide +kernel
theorem dX9_words_5 : decode cX9_words 5 = .ok (.aload_n 0, 1) := by decide +kernel
theorem dX9_words_6 : decode cX9_words 6 = .ok (.iconst 0, 1) := by decide +kernel
theorem dX9_words_7 : decode cX9_words 7 = .ok (.putfield 141, 3) := by decide +kernel
theorem dX9_words_10 : decode cX9_words 10 = .ok (.iload_n 1, 1) := by decide +kernel
theorem dX9_words_11 : decode cX9_words 11 = .ok (.ifCond .ne 11, 3) := by decide +kernel
theorem dX9_words_14 : decode cX9_words 14 = .ok (.bipush (-20), 2) := by decide +kernel
theorem dX9_words_16 : decode cX9_words 16 = .ok (.aload_n 0, 1) := by decide +kernel
theorem dX9_words_17 : decode cX9_words 17 = .ok (.getfield 144, 3) := by decide +kernel
theorem dX9_words_20 : decode cX9_words 20 = .ok (.isub, 1) := by decide +kernel
theorem dX9_words_21 : decode cX9_words 21 = .ok (.ireturn, 1) := by decide +kernel
theorem dX9_words_22 : decode cX9_words 22 = .ok (.aload_n 0, 1) := by decide +kernel
theorem dX9_words_23 : decode cX9_words 23 = .ok (.getfield 83, 3) := by decide +kernel
theorem dX9_words_26 : decode cX9_words 26 = .ok (.aload_n 0, 1) := by decide +kernel
theorem dX9_words_27 : decode cX9_words 27 = .ok (.getfield 155, 3) := by decide +kernel
theorem dX9_words_30 : decode cX9_words 30 = .ok (.iadd, 1) := by decide +kernel
theorem dX9_words_31 : decode cX9_words 31 = .ok (.bipush 10, 2) := by decide +kernel
theorem dX9_words_33 : decode cX9_words 33 = .ok (.if_icmp .le 6, 3) := by decide +kernel
theorem dX9_words_36 : decode cX9_words 36 = .ok (.bipush (-3), 2) := by decide +kernel
theorem dX9_words_38 : decode cX9_words 38 = .ok (.ireturn, 1) := by decide +kernel
theorem dX9_words_39 : decode cX9_words 39 = .ok (.iconst 0, 1) := by decide +kernel
theorem dX9_words_40 : decode cX9_words 40 = .ok (.istore_n 2, 1) := by decide +kernel
theorem dX9_words_41 : decode cX9_words 41 = .ok (.iload_n 2, 1) := by decide +kernel
theorem dX9_words_42 : decode cX9_words 42 = .ok (.bipush 8, 2) := by decide +kernel
theorem dX9_words_44 : decode cX9_words 44 = .ok (.aload_n 0, 1) := by decide +kernel
theorem dX9_words_45 : decode cX9_words 45 = .ok (.getfield 155, 3) := by decide +kernel
theorem dX9_words_48 : decode cX9_words 48 = .ok (.imul, 1) := by decide +kernel
theorem dX9_words_49 : decode cX9_words 49 = .ok (.if_icmp .ge 29, 3) := by decide +kernel
theorem dX9_words_52 : decode cX9_words 52 = .ok (.aload_n 0, 1) := by decide +kernel
theorem dX9_words_53 : decode cX9_words 53 = .ok (.getfield 28, 3) := by decide +kernel
theorem dX9_words_56 : decode cX9_words 56 = .ok (.bipush 8, 2) := by decide +kernel
theorem dX9_words_58 : decode cX9_words 58 = .ok (.aload_n 0, 1) := by decide +kernel
theorem dX9_words_59 : decode cX9_words 59 = .ok (.getfield 83, 3) := by decide +kernel
theorem dX9_words_62 : decode cX9_words 62 = .ok (.imul, 1) := by decide +kernel
theorem dX9_words_63 : decode cX9_words 63 = .ok (.iload_n 2, 1) := by decide +kernel
theorem dX9_words_64 : decode cX9_words 64 = .ok (.iadd, 1) := by decide +kernel
theorem dX9_words_65 : decode cX9_words 65 = .ok (.aload_n 0, 1) := by decide +kernel
theorem dX9_words_66 : decode cX9_words 66 = .ok (.getfield 34, 3) := by decide +kernel
theorem dX9_words_69 : decode cX9_words 69 = .ok (.iload_n 2, 1) := by decide +kernel
theorem dX9_words_70 : decode cX9_words 70 = .ok (.iaload, 1) := by decide +kernel
theorem dX9_words_71 : decode cX9_words 71 = .ok (.iastore, 1) := by decide +kernel
theorem dX9_words_72 : decode cX9_words 72 = .ok (.iinc 2 1, 3) := by decide +kernel
theorem dX9_words_75 : decode cX9_words 75 = .ok (.goto (-34), 3) := by decide +kernel
theorem dX9_words_78 : decode cX9_words 78 = .ok (.aload_n 0, 1) := by decide +kernel
theorem dX9_words_79 : decode cX9_words 79 = .ok (.dup, 1) := by decide +kernel
theorem dX9_words_80 : decode cX9_words 80 = .ok (.getfield 83, 3) := by decide +kernel
theorem dX9_words_83 : decode cX9_words 83 = .ok (.aload_n 0, 1) := by decide +kernel
theorem dX9_words_84 : decode cX9_words 84 = .ok (.getfield 155, 3) := by decide +kernel
theorem dX9_words_87 : decode cX9_words 87 = .ok (.iadd, 1) := by decide +kernel
theorem dX9_words_88 : decode cX9_words 88 = .ok (.putfield 83, 3) := by decide +kernel
theorem dX9_words_91 : decode cX9_words 91 = .ok (.aload_n 0, 1) := by decide +kernel
theorem dX9_words_92 : decode cX9_words 92 = .ok (.getfield 155, 3) := by decide +kernel
theorem dX9_words_95 : decode cX9_words 95 = .ok (.ireturn, 1) := by decide +kernel
theorem dX9_told_0 : decode cX9_told 0 = .ok (.aload_n 0, 1) := by decide +kernel
theorem dX9_told_1 : decode cX9_told 1 = .ok (.iload_n 1, 1) := by decide +kernel
theorem dX9_told_2 : decode cX9_told 2 = .ok (.invokevirtual 174, 3) := by decide +kernel
theorem dX9_told_5 : decode cX9_told 5 = .ok (.ifCond .eq 9, 3) := by decide +kernel
theorem dX9_told_8 : decode cX9_told 8 = .ok (.iload_n 2, 1) := by decide +kernel
theorem dX9_told_9 : decode cX9_told 9 = .ok (.bipush (-2), 2) := by decide +kernel
theorem dX9_told_11 : decode cX9_told 11 = .ok (.if_icmp .ge 5, 3) := by decide +kernel
theorem dX9_told_14 : decode cX9_told 14 = .ok (.iconst (-1), 1) := by decide +kernel
theorem dX9_told_15 : decode cX9_told 15 = .ok (.ireturn, 1) := by decide +kernel
theorem dX9_told_16 : decode cX9_told 16 = .ok (.aload_n 0, 1) := by decide +kernel
theorem dX9_told_17 : decode cX9_told 17 = .ok (.getfield 28, 3) := by decide +kernel
theorem dX9_told_20 : decode cX9_told 20 = .ok (.bipush 8, 2) := by decide +kernel
theorem dX9_told_22 : decode cX9_told 22 = .ok (.iload_n 1, 1) := by decide +kernel
theorem dX9_told_23 : decode cX9_told 23 = .ok (.imul, 1) := by decide +kernel
theorem dX9_told_24 : decode cX9_told 24 = .ok (.iaload, 1) := by decide +kernel
theorem dX9_told_25 : decode cX9_told 25 = .ok (.istore_n 3, 1) := by decide +kernel
theorem dX9_told_26 : decode cX9_told 26 = .ok (.iload_n 2, 1) := by decide +kernel
theorem dX9_told_27 : decode cX9_told 27 = .ok (.iconst (-1), 1) := by decide +kernel
theorem dX9_told_28 : decode cX9_told 28 = .ok (.if_icmp .ne 7, 3) := by decide +kernel
theorem dX9_told_31 : decode cX9_told 31 = .ok (.iload_n 3, 1) := by decide +kernel
theorem dX9_told_32 : decode cX9_told 32 = .ok (.goto 46, 3) := by decide +kernel
theorem dX9_told_35 : decode cX9_told 35 = .ok (.iload_n 2, 1) := by decide +kernel
theorem dX9_told_36 : decode cX9_told 36 = .ok (.bipush (-2), 2) := by decide +kernel
theorem dX9_told_38 : decode cX9_told 38 = .ok (.if_icmp .ne 17, 3) := by decide +kernel
theorem dX9_told_41 : decode cX9_told 41 = .ok (.aload_n 0, 1) := by decide +kernel
theorem dX9_told_42 : decode cX9_told 42 = .ok (.getfield 28, 3) := by decide +kernel
theorem dX9_told_45 : decode cX9_told 45 = .ok (.bipush 8, 2) := by decide +kernel
theorem dX9_told_47 : decode cX9_told 47 = .ok (.iload_n 1, 1) := by decide +kernel
theorem dX9_told_48 : decode cX9_told 48 = .ok (.imul, 1) := by decide +kernel
theorem dX9_told_49 : decode cX9_told 49 = .ok (.iconst 1, 1) := by decide +kernel
theorem dX9_told_50 : decode cX9_told 50 = .ok (.iadd, 1) := by decide +kernel
theorem dX9_told_51 : decode cX9_told 51 = .ok (.iaload, 1) := by decide +kernel
theorem dX9_told_52 : decode cX9_told 52 = .ok (.goto 26, 3) := by decide +kernel
theorem dX9_told_55 : decode cX9_told 55 = .ok (.iload_n 2, 1) := by decide +kernel
theorem dX9_told_56 : decode cX9_told 56 = .ok (.iload_n 3, 1) := by decide +kernel
theorem dX9_told_57 : decode cX9_told 57 = .ok (.if_icmp .ge 19, 3) := by decide +kernel
theorem dX9_told_60 : decode cX9_told 60 = .ok (.aload_n 0, 1) := by decide +kernel
theorem dX9_told_61 : decode cX9_told 61 = .ok (.getfield 28, 3) := by decide +kernel
theorem dX9_told_64 : decode cX9_told 64 = .ok (.bipush 8, 2) := by decide +kernel
theorem dX9_told_66 : decode cX9_told 66 = .ok (.iload_n 1, 1) := by decide +kernel
theorem dX9_told_67 : decode cX9_told 67 = .ok (.imul, 1) := by decide +kernel
theorem dX9_told_68 : decode cX9_told 68 = .ok (.iconst 2, 1) := by decide +kernel
theorem dX9_told_69 : decode cX9_told 69 = .ok (.iadd, 1) := by decide +kernel
theorem dX9_told_70 : decode cX9_told 70 = .ok (.iload_n 2, 1) := by decide +kernel
theorem dX9_told_71 : decode cX9_told 71 = .ok (.iadd, 1) := by decide +kernel
theorem dX9_told_72 : decode cX9_told 72 = .ok (.iaload, 1) := by decide +kernel
theorem dX9_told_73 : decode cX9_told 73 = .ok (.goto 5, 3) := by decide +kernel
theorem dX9_told_76 : decode cX9_told 76 = .ok (.bipush (-4), 2) := by decide +kernel
theorem dX9_told_78 : decode cX9_told 78 = .ok (.ireturn, 1) := by decide +kernel
theorem dX9_pay_0 : decode cX9_pay 0 = .ok (.aload_n 0, 1) := by decide +kernel
theorem dX9_pay_1 : decode cX9_pay 1 = .ok (.iload_n 1, 1) := by decide +kernel
theorem dX9_pay_2 : decode cX9_pay 2 = .ok (.invokevirtual 174, 3) := by decide +kernel
theorem dX9_pay_5 : decode cX9_pay 5 = .ok (.ifCond .eq 15, 3) := by decide +kernel
theorem dX9_pay_8 : decode cX9_pay 8 = .ok (.iload_n 2, 1) := by decide +kernel
theorem dX9_pay_9 : decode cX9_pay 9 = .ok (.i2l, 1) := by decide +kernel
theorem dX9_pay_10 : decode cX9_pay 10 = .ok (.lconst 0, 1) := by decide +kernel
theorem dX9_pay_11 : decode cX9_pay 11 = .ok (.ldc2_w 177, 3) := by decide +kernel
theorem dX9_pay_14 : decode cX9_pay 14 = .ok (.invokestatic 75, 3) := by decide +kernel
theorem dX9_pay_17 : decode cX9_pay 17 = .ok (.ifCond .ne 5, 3) := by decide +kernel
theorem dX9_pay_20 : decode cX9_pay 20 = .ok (.iconst (-1), 1) := by decide +kernel
theorem dX9_pay_21 : decode cX9_pay 21 = .ok (.ireturn, 1) := by decide +kernel
theorem dX9_pay_22 : decode cX9_pay 22 = .ok (.aload_n 0, 1) := by decide +kernel
theorem dX9_pay_23 : decode cX9_pay 23 = .ok (.getfield 28, 3) := by decide +kernel
theorem dX9_pay_26 : decode cX9_pay 26 = .ok (.bipush 8, 2) := by decide +kernel
theorem dX9_pay_28 : decode cX9_pay 28 = .ok (.iload_n 1, 1) := by decide +kernel
theorem dX9_pay_29 : decode cX9_pay 29 = .ok (.imul, 1) := by decide +kernel
theorem dX9_pay_30 : decode cX9_pay 30 = .ok (.iconst 1, 1) := by decide +kernel
theorem dX9_pay_31 : decode cX9_pay 31 = .ok (.iadd, 1) := by decide +kernel
theorem dX9_pay_32 : decode cX9_pay 32 = .ok (.iaload, 1) := by decide +kernel
theorem dX9_pay_33 : decode cX9_pay 33 = .ok (.istore_n 3, 1) := by decide +kernel
theorem dX9_pay_34 : decode cX9_pay 34 = .ok (.aload_n 0, 1) := by decide +kernel
theorem dX9_pay_35 : decode cX9_pay 35 = .ok (.getfield 28, 3) := by decide +kernel
theorem dX9_pay_38 : decode cX9_pay 38 = .ok (.bipush 8, 2) := by decide +kernel
theorem dX9_pay_40 : decode cX9_pay 40 = .ok (.iload_n 1, 1) := by decide +kernel
theorem dX9_pay_41 : decode cX9_pay 41 = .ok (.imul, 1) := by decide +kernel
theorem dX9_pay_42 : decode cX9_pay 42 = .ok (.iconst 1, 1) := by decide +kernel
theorem dX9_pay_43 : decode cX9_pay 43 = .ok (.iadd, 1) := by decide +kernel
theorem dX9_pay_44 : decode cX9_pay 44 = .ok (.iload_n 2, 1) := by decide +kernel
theorem dX9_pay_45 : decode cX9_pay 45 = .ok (.iastore, 1) := by decide +kernel
theorem dX9_pay_46 : decode cX9_pay 46 = .ok (.iload_n 3, 1) := by decide +kernel
theorem dX9_pay_47 : decode cX9_pay 47 = .ok (.ireturn, 1) := by decide +kernel
theorem dX9_feud_0 : decode cX9_feud 0 = .ok (.iload_n 1, 1) := by decide +kernel
theorem dX9_feud_1 : decode cX9_feud 1 = .ok (.i2l, 1) := by decide +kernel
theorem dX9_feud_2 : decode cX9_feud 2 = .ok (.lconst 0, 1) := by decide +kernel
theorem dX9_feud_3 : decode cX9_feud 3 = .ok (.ldc2_w 86, 3) := by decide +kernel
theorem dX9_feud_6 : decode cX9_feud 6 = .ok (.invokestatic 75, 3) := by decide +kernel
theorem dX9_feud_9 : decode cX9_feud 9 = .ok (.ifCond .eq 20, 3) := by decide +kernel
theorem dX9_feud_12 : decode cX9_feud 12 = .ok (.iload_n 2, 1) := by decide +kernel
theorem dX9_feud_13 : decode cX9_feud 13 = .ok (.i2l, 1) := by decide +kernel
theorem dX9_feud_14 : decode cX9_feud 14 = .ok (.lconst 0, 1) := by decide +kernel
theorem dX9_feud_15 : decode cX9_feud 15 = .ok (.ldc2_w 86, 3) := by decide +kernel
theorem dX9_feud_18 : decode cX9_feud 18 = .ok (.invokestatic 75, 3) := by decide +kernel
theorem dX9_feud_21 : decode cX9_feud 21 = .ok (.ifCond .eq 8, 3) := by decide +kernel
theorem dX9_feud_24 : decode cX9_feud 24 = .ok (.iload_n 1, 1) := by decide +kernel
theorem dX9_feud_25 : decode cX9_feud 25 = .ok (.iload_n 2, 1) := by decide +kernel
theorem dX9_feud_26 : decode cX9_feud 26 = .ok (.if_icmp .ne 5, 3) := by decide +kernel
theorem dX9_feud_29 : decode cX9_feud 29 = .ok (.iconst (-1), 1) := by decide +kernel
theorem dX9_feud_30 : decode cX9_feud 30 = .ok (.ireturn, 1) := by decide +kernel
theorem dX9_feud_31 : decode cX9_feud 31 = .ok (.aload_n 0, 1) := by decide +kernel
theorem dX9_feud_32 : decode cX9_feud 32 = .ok (.getfield 25, 3) := by decide +kernel
theorem dX9_feud_35 : decode cX9_feud 35 = .ok (.bipush 6, 2) := by decide +kernel
theorem dX9_feud_37 : decode cX9_feud 37 = .ok (.iload_n 1, 1) := by decide +kernel
theorem dX9_feud_38 : decode cX9_feud 38 = .ok (.imul, 1) := by decide +kernel
theorem dX9_feud_39 : decode cX9_feud 39 = .ok (.iload_n 2, 1) := by decide +kernel
theorem dX9_feud_40 : decode cX9_feud 40 = .ok (.iadd, 1) := by decide +kernel
theorem dX9_feud_41 : decode cX9_feud 41 = .ok (.iaload, 1) := by decide +kernel
theorem dX9_feud_42 : decode cX9_feud 42 = .ok (.istore 4, 2) := by decide +kernel
theorem dX9_feud_44 : decode cX9_feud 44 = .ok (.aload_n 0, 1) := by decide +kernel
theorem dX9_feud_45 : decode cX9_feud 45 = .ok (.getfield 25, 3) := by decide +kernel
theorem dX9_feud_48 : decode cX9_feud 48 = .ok (.bipush 6, 2) := by decide +kernel
theorem dX9_feud_50 : decode cX9_feud 50 = .ok (.iload_n 1, 1) := by decide +kernel
theorem dX9_feud_51 : decode cX9_feud 51 = .ok (.imul, 1) := by decide +kernel
theorem dX9_feud_52 : decode cX9_feud 52 = .ok (.iload_n 2, 1) := by decide +kernel
theorem dX9_feud_53 : decode cX9_feud 53 = .ok (.iadd, 1) := by decide +kernel
theorem dX9_feud_54 : decode cX9_feud 54 = .ok (.iload_n 3, 1) := by decide +kernel
theorem dX9_feud_55 : decode cX9_feud 55 = .ok (.ifCond .eq 7, 3) := by decide +kernel
theorem dX9_feud_58 : decode cX9_feud 58 = .ok (.iconst 1, 1) := by decide +kernel
theorem dX9_feud_59 : decode cX9_feud 59 = .ok (.goto 4, 3) := by decide +kernel
theorem dX9_feud_62 : decode cX9_feud 62 = .ok (.iconst 0, 1) := by decide +kernel
theorem dX9_feud_63 : decode cX9_feud 63 = .ok (.iastore, 1) := by decide +kernel
theorem dX9_feud_64 : decode cX9_feud 64 = .ok (.aload_n 0, 1) := by decide +kernel
theorem dX9_feud_65 : decode cX9_feud 65 = .ok (.getfield 25, 3) := by decide +kernel
theorem dX9_feud_68 : decode cX9_feud 68 = .ok (.bipush 6, 2) := by decide +kernel
theorem dX9_feud_70 : decode cX9_feud 70 = .ok (.iload_n 2, 1) := by decide +kernel
theorem dX9_feud_71 : decode cX9_feud 71 = .ok (.imul, 1) := by decide +kernel
theorem dX9_feud_72 : decode cX9_feud 72 = .ok (.iload_n 1, 1) := by decide +kernel
theorem dX9_feud_73 : decode cX9_feud 73 = .ok (.iadd, 1) := by decide +kernel
theorem dX9_feud_74 : decode cX9_feud 74 = .ok (.iload_n 3, 1) := by decide +kernel
theorem dX9_feud_75 : decode cX9_feud 75 = .ok (.ifCond .eq 7, 3) := by decide +kernel
theorem dX9_feud_78 : decode cX9_feud 78 = .ok (.iconst 1, 1) := by decide +kernel
theorem dX9_feud_79 : decode cX9_feud 79 = .ok (.goto 4, 3) := by decide +kernel
theorem dX9_feud_82 : decode cX9_feud 82 = .ok (.iconst 0, 1) := by decide +kernel
theorem dX9_feud_83 : decode cX9_feud 83 = .ok (.iastore, 1) := by decide +kernel
theorem dX9_feud_84 : decode cX9_feud 84 = .ok (.iload 4, 2) := by decide +kernel
theorem dX9_feud_86 : decode cX9_feud 86 = .ok (.ireturn, 1) := by decide +kernel
theorem dX9_count_0 : decode cX9_count 0 = .ok (.iconst 0, 1) := by decide +kernel
theorem dX9_count_1 : decode cX9_count 1 = .ok (.istore_n 2, 1) := by decide +kernel
theorem dX9_count_2 : decode cX9_count 2 = .ok (.iconst 0, 1) := by decide +kernel
theorem dX9_count_3 : decode cX9_count 3 = .ok (.istore_n 3, 1) := by decide +kernel
theorem dX9_count_4 : decode cX9_count 4 = .ok (.iload_n 3, 1) := by decide +kernel
theorem dX9_count_5 : decode cX9_count 5 = .ok (.bipush 36, 2) := by decide +kernel
theorem dX9_count_7 : decode cX9_count 7 = .ok (.if_icmp .ge 18, 3) := by decide +kernel
theorem dX9_count_10 : decode cX9_count 10 = .ok (.iload_n 2, 1) := by decide +kernel
theorem dX9_count_11 : decode cX9_count 11 = .ok (.aload_n 0, 1) := by decide +kernel
theorem dX9_count_12 : decode cX9_count 12 = .ok (.getfield 25, 3) := by decide +kernel
theorem dX9_count_15 : decode cX9_count 15 = .ok (.iload_n 3, 1) := by decide +kernel
theorem dX9_count_16 : decode cX9_count 16 = .ok (.iaload, 1) := by decide +kernel
theorem dX9_count_17 : decode cX9_count 17 = .ok (.iadd, 1) := by decide +kernel
theorem dX9_count_18 : decode cX9_count 18 = .ok (.istore_n 2, 1) := by decide +kernel
theorem dX9_count_19 : decode cX9_count 19 = .ok (.iinc 3 1, 3) := by decide +kernel
theorem dX9_count_22 : decode cX9_count 22 = .ok (.goto (-18), 3) := by decide +kernel
theorem dX9_count_25 : decode cX9_count 25 = .ok (.iconst 0, 1) := by decide +kernel
theorem dX9_count_26 : decode cX9_count 26 = .ok (.istore_n 3, 1) := by decide +kernel
theorem dX9_count_27 : decode cX9_count 27 = .ok (.iconst 0, 1) := by decide +kernel
theorem dX9_count_28 : decode cX9_count 28 = .ok (.istore 4, 2) := by decide +kernel
theorem dX9_count_30 : decode cX9_count 30 = .ok (.iload 4, 2) := by decide +kernel
theorem dX9_count_32 : decode cX9_count 32 = .ok (.bipush 6, 2) := by decide +kernel
theorem dX9_count_34 : decode cX9_count 34 = .ok (.if_icmp .ge 19, 3) := by decide +kernel
theorem dX9_count_37 : decode cX9_count 37 = .ok (.iload_n 3, 1) := by decide +kernel
theorem dX9_count_38 : decode cX9_count 38 = .ok (.aload_n 0, 1) := by decide +kernel
theorem dX9_count_39 : decode cX9_count 39 = .ok (.getfield 19, 3) := by decide +kernel
theorem dX9_count_42 : decode cX9_count 42 = .ok (.iload 4, 2) := by decide +kernel
theorem dX9_count_44 : decode cX9_count 44 = .ok (.iaload, 1) := by decide +kernel
theorem dX9_count_45 : decode cX9_count 45 = .ok (.iadd, 1) := by decide +kernel
theorem dX9_count_46 : decode cX9_count 46 = .ok (.istore_n 3, 1) := by decide +kernel
theorem dX9_count_47 : decode cX9_count 47 = .ok (.iinc 4 1, 3) := by decide +kernel
theorem dX9_count_50 : decode cX9_count 50 = .ok (.goto (-20), 3) := by decide +kernel
theorem dX9_count_53 : decode cX9_count 53 = .ok (.iload_n 1, 1) := by decide +kernel
theorem dX9_count_54 : decode cX9_count 54 = .ok (.ifCond .ne 10, 3) := by decide +kernel
theorem dX9_count_57 : decode cX9_count 57 = .ok (.aload_n 0, 1) := by decide +kernel
theorem dX9_count_58 : decode cX9_count 58 = .ok (.getfield 71, 3) := by decide +kernel
theorem dX9_count_61 : decode cX9_count 61 = .ok (.goto 36, 3) := by decide +kernel
theorem dX9_count_64 : decode cX9_count 64 = .ok (.iload_n 1, 1) := by decide +kernel
theorem dX9_count_65 : decode cX9_count 65 = .ok (.iconst 1, 1) := by decide +kernel
theorem dX9_count_66 : decode cX9_count 66 = .ok (.if_icmp .ne 10, 3) := by decide +kernel
theorem dX9_count_69 : decode cX9_count 69 = .ok (.aload_n 0, 1) := by decide +kernel
theorem dX9_count_70 : decode cX9_count 70 = .ok (.getfield 83, 3) := by decide +kernel
theorem dX9_count_73 : decode cX9_count 73 = .ok (.goto 24, 3) := by decide +kernel
theorem dX9_count_76 : decode cX9_count 76 = .ok (.iload_n 1, 1) := by decide +kernel
theorem dX9_count_77 : decode cX9_count 77 = .ok (.iconst 2, 1) := by decide +kernel
theorem dX9_count_78 : decode cX9_count 78 = .ok (.if_icmp .ne 9, 3) := by decide +kernel
theorem dX9_count_81 : decode cX9_count 81 = .ok (.iload_n 2, 1) := by decide +kernel
theorem dX9_count_82 : decode cX9_count 82 = .ok (.iconst 2, 1) := by decide +kernel
theorem dX9_count_83 : decode cX9_count 83 = .ok (.idiv, 1) := by decide +kernel
theorem dX9_count_84 : decode cX9_count 84 = .ok (.goto 13, 3) := by decide +kernel
theorem dX9_count_87 : decode cX9_count 87 = .ok (.iload_n 1, 1) := by decide +kernel
theorem dX9_count_88 : decode cX9_count 88 = .ok (.iconst 3, 1) := by decide +kernel
theorem dX9_count_89 : decode cX9_count 89 = .ok (.if_icmp .ne 7, 3) := by decide +kernel
theorem dX9_count_92 : decode cX9_count 92 = .ok (.iload_n 3, 1) := by decide +kernel
theorem dX9_count_93 : decode cX9_count 93 = .ok (.goto 4, 3) := by decide +kernel
theorem dX9_count_96 : decode cX9_count 96 = .ok (.iconst (-1), 1) := by decide +kernel
theorem dX9_count_97 : decode cX9_count 97 = .ok (.ireturn, 1) := by decide +kernel
theorem dX9_sizeOf_0 : decode cX9_sizeOf 0 = .ok (.aload_n 0, 1) := by decide +kernel
theorem dX9_sizeOf_1 : decode cX9_sizeOf 1 = .ok (.getfield 28, 3) := by decide +kernel
theorem dX9_sizeOf_4 : decode cX9_sizeOf 4 = .ok (.bipush 8, 2) := by decide +kernel
theorem dX9_sizeOf_6 : decode cX9_sizeOf 6 = .ok (.iload_n 1, 1) := by decide +kernel
theorem dX9_sizeOf_7 : decode cX9_sizeOf 7 = .ok (.imul, 1) := by decide +kernel
theorem dX9_sizeOf_8 : decode cX9_sizeOf 8 = .ok (.iaload, 1) := by decide +kernel
theorem dX9_sizeOf_9 : decode cX9_sizeOf 9 = .ok (.ireturn, 1) := by decide +kernel
theorem dX9_letterOf_0 : decode cX9_letterOf 0 = .ok (.aload_n 0, 1) := by decide +kernel
theorem dX9_letterOf_1 : decode cX9_letterOf 1 = .ok (.getfield 28, 3) := by decide +kernel
theorem dX9_letterOf_4 : decode cX9_letterOf 4 = .ok (.bipush 8, 2) := by decide +kernel
theorem dX9_letterOf_6 : decode cX9_letterOf 6 = .ok (.iload_n 1, 1) := by decide +kernel
theorem dX9_letterOf_7 : decode cX9_letterOf 7 = .ok (.imul, 1) := by decide +kernel
theorem dX9_letterOf_8 : decode cX9_letterOf 8 = .ok (.iconst 2, 1) := by decide +kernel
theorem dX9_letterOf_9 : decode cX9_letterOf 9 = .ok (.iadd, 1) := by decide +kernel
theorem dX9_letterOf_10 : decode cX9_letterOf 10 = .ok (.iload_n 2, 1) := by decide +kernel
theorem dX9_letterOf_11 : decode cX9_letterOf 11 = .ok (.iadd, 1) := by decide +kernel
theorem dX9_letterOf_12 : decode cX9_letterOf 12 = .ok (.iaload, 1) := by decide +kernel
theorem dX9_letterOf_13 : decode cX9_letterOf 13 = .ok (.ireturn, 1) := by decide +kernel
theorem dX9_hasRoom_0 : decode cX9_hasRoom 0 = .ok (.iload_n 2, 1) := by decide +kernel
theorem dX9_hasRoom_1 : decode cX9_hasRoom 1 = .ok (.aload_n 0, 1) := by decide +kernel
theorem dX9_hasRoom_2 : decode cX9_hasRoom 2 = .ok (.iload_n 1, 1) := by decide +kernel
theorem dX9_hasRoom_3 : decode cX9_hasRoom 3 = .ok (.invokevirtual 179, 3) := by decide +kernel
theorem dX9_hasRoom_6 : decode cX9_hasRoom 6 = .ok (.iadd, 1) := by decide +kernel
theorem dX9_hasRoom_7 : decode cX9_hasRoom 7 = .ok (.aload_n 0, 1) := by decide +kernel
theorem dX9_hasRoom_8 : decode cX9_hasRoom 8 = .ok (.getfield 71, 3) := by decide +kernel
theorem dX9_hasRoom_11 : decode cX9_hasRoom 11 = .ok (.if_icmp .gt 7, 3) := by decide +kernel
theorem dX9_hasRoom_14 : decode cX9_hasRoom 14 = .ok (.iconst 1, 1) := by decide +kernel
theorem dX9_hasRoom_15 : decode cX9_hasRoom 15 = .ok (.goto 4, 3) := by decide +kernel
theorem dX9_hasRoom_18 : decode cX9_hasRoom 18 = .ok (.iconst 0, 1) := by decide +kernel
theorem dX9_hasRoom_19 : decode cX9_hasRoom 19 = .ok (.ireturn, 1) := by decide +kernel
theorem dX9_isWritten_0 : decode cX9_isWritten 0 = .ok (.aload_n 0, 1) := by decide +kernel
theorem dX9_isWritten_1 : decode cX9_isWritten 1 = .ok (.iload_n 1, 1) := by decide +kernel
theorem dX9_isWritten_2 : decode cX9_isWritten 2 = .ok (.iload_n 2, 1) := by decide +kernel
theorem dX9_isWritten_3 : decode cX9_isWritten 3 = .ok (.invokevirtual 182, 3) := by decide +kernel
theorem dX9_isWritten_6 : decode cX9_isWritten 6 = .ok (.istore_n 3, 1) := by decide +kernel
theorem dX9_isWritten_7 : decode cX9_isWritten 7 = .ok (.iconst 0, 1) := by decide +kernel
theorem dX9_isWritten_8 : decode cX9_isWritten 8 = .ok (.istore 4, 2) := by decide +kernel
theorem dX9_isWritten_10 : decode cX9_isWritten 10 = .ok (.iload 4, 2) := by decide +kernel
theorem dX9_isWritten_12 : decode cX9_isWritten 12 = .ok (.aload_n 0, 1) := by decide +kernel
theorem dX9_isWritten_13 : decode cX9_isWritten 13 = .ok (.iload_n 1, 1) := by decide +kernel
theorem dX9_isWritten_14 : decode cX9_isWritten 14 = .ok (.invokevirtual 179, 3) := by decide +kernel
theorem dX9_isWritten_17 : decode cX9_isWritten 17 = .ok (.if_icmp .ge 41, 3) := by decide +kernel
theorem dX9_isWritten_20 : decode cX9_isWritten 20 = .ok (.iload_n 3, 1) := by decide +kernel
theorem dX9_isWritten_21 : decode cX9_isWritten 21 = .ok (.ifCond .eq 37, 3) := by decide +kernel
theorem dX9_isWritten_24 : decode cX9_isWritten 24 = .ok (.aload_n 0, 1) := by decide +kernel
theorem dX9_isWritten_25 : decode cX9_isWritten 25 = .ok (.aload_n 0, 1) := by decide +kernel
theorem dX9_isWritten_26 : decode cX9_isWritten 26 = .ok (.iload_n 2, 1) := by decide +kernel
theorem dX9_isWritten_27 : decode cX9_isWritten 27 = .ok (.iload 4, 2) := by decide +kernel
theorem dX9_isWritten_29 : decode cX9_isWritten 29 = .ok (.iadd, 1) := by decide +kernel
theorem dX9_isWritten_30 : decode cX9_isWritten 30 = .ok (.invokevirtual 104, 3) := by decide +kernel
theorem dX9_isWritten_33 : decode cX9_isWritten 33 = .ok (.invokevirtual 114, 3) := by decide +kernel
theorem dX9_isWritten_36 : decode cX9_isWritten 36 = .ok (.aload_n 0, 1) := by decide +kernel
theorem dX9_isWritten_37 : decode cX9_isWritten 37 = .ok (.iload_n 1, 1) := by decide +kernel
theorem dX9_isWritten_38 : decode cX9_isWritten 38 = .ok (.iload 4, 2) := by decide +kernel
theorem dX9_isWritten_40 : decode cX9_isWritten 40 = .ok (.invokevirtual 185, 3) := by decide +kernel
theorem dX9_isWritten_43 : decode cX9_isWritten 43 = .ok (.if_icmp .ne 7, 3) := by decide +kernel
theorem dX9_isWritten_46 : decode cX9_isWritten 46 = .ok (.iconst 1, 1) := by decide +kernel
theorem dX9_isWritten_47 : decode cX9_isWritten 47 = .ok (.goto 4, 3) := by decide +kernel
theorem dX9_isWritten_50 : decode cX9_isWritten 50 = .ok (.iconst 0, 1) := by decide +kernel
theorem dX9_isWritten_51 : decode cX9_isWritten 51 = .ok (.istore_n 3, 1) := by decide +kernel
theorem dX9_isWritten_52 : decode cX9_isWritten 52 = .ok (.iinc 4 1, 3) := by decide +kernel
theorem dX9_isWritten_55 : decode cX9_isWritten 55 = .ok (.goto (-45), 3) := by decide +kernel
theorem dX9_isWritten_58 : decode cX9_isWritten 58 = .ok (.iload_n 3, 1) := by decide +kernel
theorem dX9_isWritten_59 : decode cX9_isWritten 59 = .ok (.ireturn, 1) := by decide +kernel
theorem dX9_written_0 : decode cX9_written 0 = .ok (.aload_n 0, 1) := by decide +kernel
theorem dX9_written_1 : decode cX9_written 1 = .ok (.iload_n 1, 1) := by decide +kernel
theorem dX9_written_2 : decode cX9_written 2 = .ok (.invokevirtual 174, 3) := by decide +kernel
theorem dX9_written_5 : decode cX9_written 5 = .ok (.ifCond .eq 11, 3) := by decide +kernel
theorem dX9_written_8 : decode cX9_written 8 = .ok (.aload_n 0, 1) := by decide +kernel
theorem dX9_written_9 : decode cX9_written 9 = .ok (.iload_n 2, 1) := by decide +kernel
theorem dX9_written_10 : decode cX9_written 10 = .ok (.invokevirtual 94, 3) := by decide +kernel
theorem dX9_written_13 : decode cX9_written 13 = .ok (.ifCond .ne 7, 3) := by decide +kernel
theorem dX9_written_16 : decode cX9_written 16 = .ok (.iconst (-1), 1) := by decide +kernel
theorem dX9_written_17 : decode cX9_written 17 = .ok (.goto 17, 3) := by decide +kernel
theorem dX9_written_20 : decode cX9_written 20 = .ok (.aload_n 0, 1) := by decide +kernel
theorem dX9_written_21 : decode cX9_written 21 = .ok (.iload_n 1, 1) := by decide +kernel
theorem dX9_written_22 : decode cX9_written 22 = .ok (.iload_n 2, 1) := by decide +kernel
theorem dX9_written_23 : decode cX9_written 23 = .ok (.invokevirtual 188, 3) := by decide +kernel
theorem dX9_written_26 : decode cX9_written 26 = .ok (.ifCond .eq 7, 3) := by decide +kernel
theorem dX9_written_29 : decode cX9_written 29 = .ok (.iconst 1, 1) := by decide +kernel
theorem dX9_written_30 : decode cX9_written 30 = .ok (.goto 4, 3) := by decide +kernel
theorem dX9_written_33 : decode cX9_written 33 = .ok (.iconst 0, 1) := by decide +kernel
theorem dX9_written_34 : decode cX9_written 34 = .ok (.ireturn, 1) := by decide +kernel
theorem dX9_mayBe_0 : decode cX9_mayBe 0 = .ok (.aload_n 0, 1) := by decide +kernel
theorem dX9_mayBe_1 : decode cX9_mayBe 1 = .ok (.iload_n 1, 1) := by decide +kernel
theorem dX9_mayBe_2 : decode cX9_mayBe 2 = .ok (.iload_n 2, 1) := by decide +kernel
theorem dX9_mayBe_3 : decode cX9_mayBe 3 = .ok (.invokevirtual 182, 3) := by decide +kernel
theorem dX9_mayBe_6 : decode cX9_mayBe 6 = .ok (.istore_n 3, 1) := by decide +kernel
theorem dX9_mayBe_7 : decode cX9_mayBe 7 = .ok (.iconst 0, 1) := by decide +kernel
theorem dX9_mayBe_8 : decode cX9_mayBe 8 = .ok (.istore 4, 2) := by decide +kernel
theorem dX9_mayBe_10 : decode cX9_mayBe 10 = .ok (.iload 4, 2) := by decide +kernel
theorem dX9_mayBe_12 : decode cX9_mayBe 12 = .ok (.aload_n 0, 1) := by decide +kernel
theorem dX9_mayBe_13 : decode cX9_mayBe 13 = .ok (.iload_n 1, 1) := by decide +kernel
theorem dX9_mayBe_14 : decode cX9_mayBe 14 = .ok (.invokevirtual 179, 3) := by decide +kernel
theorem dX9_mayBe_17 : decode cX9_mayBe 17 = .ok (.if_icmp .ge 127, 3) := by decide +kernel
theorem dX9_mayBe_20 : decode cX9_mayBe 20 = .ok (.iload_n 3, 1) := by decide +kernel
theorem dX9_mayBe_21 : decode cX9_mayBe 21 = .ok (.ifCond .eq 123, 3) := by decide +kernel
theorem dX9_mayBe_24 : decode cX9_mayBe 24 = .ok (.iload_n 2, 1) := by decide +kernel
theorem dX9_mayBe_25 : decode cX9_mayBe 25 = .ok (.iload 4, 2) := by decide +kernel
theorem dX9_mayBe_27 : decode cX9_mayBe 27 = .ok (.iadd, 1) := by decide +kernel
theorem dX9_mayBe_28 : decode cX9_mayBe 28 = .ok (.istore 5, 2) := by decide +kernel
theorem dX9_mayBe_30 : decode cX9_mayBe 30 = .ok (.aload_n 0, 1) := by decide +kernel
theorem dX9_mayBe_31 : decode cX9_mayBe 31 = .ok (.getfield 7, 3) := by decide +kernel
theorem dX9_mayBe_34 : decode cX9_mayBe 34 = .ok (.aload_n 0, 1) := by decide +kernel
theorem dX9_mayBe_35 : decode cX9_mayBe 35 = .ok (.iload_n 1, 1) := by decide +kernel
theorem dX9_mayBe_36 : decode cX9_mayBe 36 = .ok (.iload 4, 2) := by decide +kernel
theorem dX9_mayBe_38 : decode cX9_mayBe 38 = .ok (.invokevirtual 185, 3) := by decide +kernel
theorem dX9_mayBe_41 : decode cX9_mayBe 41 = .ok (.iaload, 1) := by decide +kernel
theorem dX9_mayBe_42 : decode cX9_mayBe 42 = .ok (.istore 6, 2) := by decide +kernel
theorem dX9_mayBe_44 : decode cX9_mayBe 44 = .ok (.aload_n 0, 1) := by decide +kernel
theorem dX9_mayBe_45 : decode cX9_mayBe 45 = .ok (.iload 5, 2) := by decide +kernel
theorem dX9_mayBe_47 : decode cX9_mayBe 47 = .ok (.iload 6, 2) := by decide +kernel
theorem dX9_mayBe_49 : decode cX9_mayBe 49 = .ok (.invokevirtual 121, 3) := by decide +kernel
theorem dX9_mayBe_52 : decode cX9_mayBe 52 = .ok (.ifCond .eq 30, 3) := by decide +kernel
theorem dX9_mayBe_55 : decode cX9_mayBe 55 = .ok (.aload_n 0, 1) := by decide +kernel
theorem dX9_mayBe_56 : decode cX9_mayBe 56 = .ok (.aload_n 0, 1) := by decide +kernel
theorem dX9_mayBe_57 : decode cX9_mayBe 57 = .ok (.iload 5, 2) := by decide +kernel
theorem dX9_mayBe_59 : decode cX9_mayBe 59 = .ok (.invokevirtual 104, 3) := by decide +kernel
theorem dX9_mayBe_62 : decode cX9_mayBe 62 = .ok (.iload 6, 2) := by decide +kernel
theorem dX9_mayBe_64 : decode cX9_mayBe 64 = .ok (.ior, 1) := by decide +kernel
theorem dX9_mayBe_65 : decode cX9_mayBe 65 = .ok (.invokevirtual 114, 3) := by decide +kernel
theorem dX9_mayBe_68 : decode cX9_mayBe 68 = .ok (.aload_n 0, 1) := by decide +kernel
theorem dX9_mayBe_69 : decode cX9_mayBe 69 = .ok (.iload_n 1, 1) := by decide +kernel
theorem dX9_mayBe_70 : decode cX9_mayBe 70 = .ok (.iload 4, 2) := by decide +kernel
theorem dX9_mayBe_72 : decode cX9_mayBe 72 = .ok (.invokevirtual 185, 3) := by decide +kernel
theorem dX9_mayBe_75 : decode cX9_mayBe 75 = .ok (.if_icmp .ne 7, 3) := by decide +kernel
theorem dX9_mayBe_78 : decode cX9_mayBe 78 = .ok (.iconst 1, 1) := by decide +kernel
theorem dX9_mayBe_79 : decode cX9_mayBe 79 = .ok (.goto 4, 3) := by decide +kernel
theorem dX9_mayBe_82 : decode cX9_mayBe 82 = .ok (.iconst 0, 1) := by decide +kernel
theorem dX9_mayBe_83 : decode cX9_mayBe 83 = .ok (.istore_n 3, 1) := by decide +kernel
theorem dX9_mayBe_84 : decode cX9_mayBe 84 = .ok (.iconst 0, 1) := by decide +kernel
theorem dX9_mayBe_85 : decode cX9_mayBe 85 = .ok (.istore 7, 2) := by decide +kernel
theorem dX9_mayBe_87 : decode cX9_mayBe 87 = .ok (.iload 7, 2) := by decide +kernel
theorem dX9_mayBe_89 : decode cX9_mayBe 89 = .ok (.iload 4, 2) := by decide +kernel
theorem dX9_mayBe_91 : decode cX9_mayBe 91 = .ok (.if_icmp .ge 47, 3) := by decide +kernel
theorem dX9_mayBe_94 : decode cX9_mayBe 94 = .ok (.iload_n 3, 1) := by decide +kernel
theorem dX9_mayBe_95 : decode cX9_mayBe 95 = .ok (.ifCond .eq 35, 3) := by decide +kernel
theorem dX9_mayBe_98 : decode cX9_mayBe 98 = .ok (.aload_n 0, 1) := by decide +kernel
theorem dX9_mayBe_99 : decode cX9_mayBe 99 = .ok (.getfield 25, 3) := by decide +kernel
theorem dX9_mayBe_102 : decode cX9_mayBe 102 = .ok (.bipush 6, 2) := by decide +kernel
theorem dX9_mayBe_104 : decode cX9_mayBe 104 = .ok (.aload_n 0, 1) := by decide +kernel
theorem dX9_mayBe_105 : decode cX9_mayBe 105 = .ok (.getfield 13, 3) := by decide +kernel
theorem dX9_mayBe_108 : decode cX9_mayBe 108 = .ok (.iload_n 2, 1) := by decide +kernel
theorem dX9_mayBe_109 : decode cX9_mayBe 109 = .ok (.iload 7, 2) := by decide +kernel
theorem dX9_mayBe_111 : decode cX9_mayBe 111 = .ok (.iadd, 1) := by decide +kernel
theorem dX9_mayBe_112 : decode cX9_mayBe 112 = .ok (.iaload, 1) := by decide +kernel
theorem dX9_mayBe_113 : decode cX9_mayBe 113 = .ok (.imul, 1) := by decide +kernel
theorem dX9_mayBe_114 : decode cX9_mayBe 114 = .ok (.aload_n 0, 1) := by decide +kernel
theorem dX9_mayBe_115 : decode cX9_mayBe 115 = .ok (.getfield 13, 3) := by decide +kernel
theorem dX9_mayBe_118 : decode cX9_mayBe 118 = .ok (.iload 5, 2) := by decide +kernel
theorem dX9_mayBe_120 : decode cX9_mayBe 120 = .ok (.iaload, 1) := by decide +kernel
theorem dX9_mayBe_121 : decode cX9_mayBe 121 = .ok (.iadd, 1) := by decide +kernel
theorem dX9_mayBe_122 : decode cX9_mayBe 122 = .ok (.iaload, 1) := by decide +kernel
theorem dX9_mayBe_123 : decode cX9_mayBe 123 = .ok (.ifCond .ne 7, 3) := by decide +kernel
theorem dX9_mayBe_126 : decode cX9_mayBe 126 = .ok (.iconst 1, 1) := by decide +kernel
theorem dX9_mayBe_127 : decode cX9_mayBe 127 = .ok (.goto 4, 3) := by decide +kernel
theorem dX9_mayBe_130 : decode cX9_mayBe 130 = .ok (.iconst 0, 1) := by decide +kernel
theorem dX9_mayBe_131 : decode cX9_mayBe 131 = .ok (.istore_n 3, 1) := by decide +kernel
theorem dX9_mayBe_132 : decode cX9_mayBe 132 = .ok (.iinc 7 1, 3) := by decide +kernel
theorem dX9_mayBe_135 : decode cX9_mayBe 135 = .ok (.goto (-48), 3) := by decide +kernel
theorem dX9_mayBe_138 : decode cX9_mayBe 138 = .ok (.iinc 4 1, 3) := by decide +kernel
theorem dX9_mayBe_141 : decode cX9_mayBe 141 = .ok (.goto (-131), 3) := by decide +kernel
theorem dX9_mayBe_144 : decode cX9_mayBe 144 = .ok (.iload_n 3, 1) := by decide +kernel
theorem dX9_mayBe_145 : decode cX9_mayBe 145 = .ok (.ireturn, 1) := by decide +kernel
theorem dX9_may_0 : decode cX9_may 0 = .ok (.aload_n 0, 1) := by decide +kernel
theorem dX9_may_1 : decode cX9_may 1 = .ok (.iload_n 1, 1) := by decide +kernel
theorem dX9_may_2 : decode cX9_may 2 = .ok (.invokevirtual 174, 3) := by decide +kernel
theorem dX9_may_5 : decode cX9_may 5 = .ok (.ifCond .eq 11, 3) := by decide +kernel
theorem dX9_may_8 : decode cX9_may 8 = .ok (.aload_n 0, 1) := by decide +kernel
theorem dX9_may_9 : decode cX9_may 9 = .ok (.iload_n 2, 1) := by decide +kernel
theorem dX9_may_10 : decode cX9_may 10 = .ok (.invokevirtual 94, 3) := by decide +kernel
theorem dX9_may_13 : decode cX9_may 13 = .ok (.ifCond .ne 7, 3) := by decide +kernel
theorem dX9_may_16 : decode cX9_may 16 = .ok (.iconst (-1), 1) := by decide +kernel
theorem dX9_may_17 : decode cX9_may 17 = .ok (.goto 17, 3) := by decide +kernel
theorem dX9_may_20 : decode cX9_may 20 = .ok (.aload_n 0, 1) := by decide +kernel
theorem dX9_may_21 : decode cX9_may 21 = .ok (.iload_n 1, 1) := by decide +kernel
theorem dX9_may_22 : decode cX9_may 22 = .ok (.iload_n 2, 1) := by decide +kernel
theorem dX9_may_23 : decode cX9_may 23 = .ok (.invokevirtual 191, 3) := by decide +kernel
theorem dX9_may_26 : decode cX9_may 26 = .ok (.ifCond .eq 7, 3) := by decide +kernel
theorem dX9_may_29 : decode cX9_may 29 = .ok (.iconst 1, 1) := by decide +kernel
theorem dX9_may_30 : decode cX9_may 30 = .ok (.goto 4, 3) := by decide +kernel
theorem dX9_may_33 : decode cX9_may 33 = .ok (.iconst 0, 1) := by decide +kernel
theorem dX9_may_34 : decode cX9_may 34 = .ok (.ireturn, 1) := by decide +kernel
theorem dX9_lostOn_0 : decode cX9_lostOn 0 = .ok (.iconst 0, 1) := by decide +kernel
theorem dX9_lostOn_1 : decode cX9_lostOn 1 = .ok (.istore_n 3, 1) := by decide +kernel
theorem dX9_lostOn_2 : decode cX9_lostOn 2 = .ok (.iconst 0, 1) := by decide +kernel
theorem dX9_lostOn_3 : decode cX9_lostOn 3 = .ok (.istore 4, 2) := by decide +kernel
theorem dX9_lostOn_5 : decode cX9_lostOn 5 = .ok (.iload 4, 2) := by decide +kernel
theorem dX9_lostOn_7 : decode cX9_lostOn 7 = .ok (.bipush 15, 2) := by decide +kernel
theorem dX9_lostOn_9 : decode cX9_lostOn 9 = .ok (.if_icmp .ge 52, 3) := by decide +kernel
theorem dX9_lostOn_12 : decode cX9_lostOn 12 = .ok (.aload_n 0, 1) := by decide +kernel
theorem dX9_lostOn_13 : decode cX9_lostOn 13 = .ok (.getfield 16, 3) := by decide +kernel
theorem dX9_lostOn_16 : decode cX9_lostOn 16 = .ok (.bipush 15, 2) := by decide +kernel
theorem dX9_lostOn_18 : decode cX9_lostOn 18 = .ok (.iload_n 1, 1) := by decide +kernel
theorem dX9_lostOn_19 : decode cX9_lostOn 19 = .ok (.imul, 1) := by decide +kernel
theorem dX9_lostOn_20 : decode cX9_lostOn 20 = .ok (.iload 4, 2) := by decide +kernel
theorem dX9_lostOn_22 : decode cX9_lostOn 22 = .ok (.iadd, 1) := by decide +kernel
theorem dX9_lostOn_23 : decode cX9_lostOn 23 = .ok (.iaload, 1) := by decide +kernel
theorem dX9_lostOn_24 : decode cX9_lostOn 24 = .ok (.istore 5, 2) := by decide +kernel
theorem dX9_lostOn_26 : decode cX9_lostOn 26 = .ok (.iload_n 3, 1) := by decide +kernel
theorem dX9_lostOn_27 : decode cX9_lostOn 27 = .ok (.aload_n 0, 1) := by decide +kernel
theorem dX9_lostOn_28 : decode cX9_lostOn 28 = .ok (.getfield 7, 3) := by decide +kernel
theorem dX9_lostOn_31 : decode cX9_lostOn 31 = .ok (.iload_n 2, 1) := by decide +kernel
theorem dX9_lostOn_32 : decode cX9_lostOn 32 = .ok (.iaload, 1) := by decide +kernel
theorem dX9_lostOn_33 : decode cX9_lostOn 33 = .ok (.iload 4, 2) := by decide +kernel
theorem dX9_lostOn_35 : decode cX9_lostOn 35 = .ok (.invokestatic 117, 3) := by decide +kernel
theorem dX9_lostOn_38 : decode cX9_lostOn 38 = .ok (.ifCond .ne 14, 3) := by decide +kernel
theorem dX9_lostOn_41 : decode cX9_lostOn 41 = .ok (.iload 5, 2) := by decide +kernel
theorem dX9_lostOn_43 : decode cX9_lostOn 43 = .ok (.iconst 2, 1) := by decide +kernel
theorem dX9_lostOn_44 : decode cX9_lostOn 44 = .ok (.if_icmp .le 8, 3) := by decide +kernel
theorem dX9_lostOn_47 : decode cX9_lostOn 47 = .ok (.iload 5, 2) := by decide +kernel
theorem dX9_lostOn_49 : decode cX9_lostOn 49 = .ok (.goto 4, 3) := by decide +kernel
theorem dX9_lostOn_52 : decode cX9_lostOn 52 = .ok (.iconst 0, 1) := by decide +kernel
theorem dX9_lostOn_53 : decode cX9_lostOn 53 = .ok (.iadd, 1) := by decide +kernel
theorem dX9_lostOn_54 : decode cX9_lostOn 54 = .ok (.istore_n 3, 1) := by decide +kernel
theorem dX9_lostOn_55 : decode cX9_lostOn 55 = .ok (.iinc 4 1, 3) := by decide +kernel
theorem dX9_lostOn_58 : decode cX9_lostOn 58 = .ok (.goto (-53), 3) := by decide +kernel
theorem dX9_lostOn_61 : decode cX9_lostOn 61 = .ok (.aload_n 0, 1) := by decide +kernel
theorem dX9_lostOn_62 : decode cX9_lostOn 62 = .ok (.getfield 22, 3) := by decide +kernel
theorem dX9_lostOn_65 : decode cX9_lostOn 65 = .ok (.iconst 3, 1) := by decide +kernel
theorem dX9_lostOn_66 : decode cX9_lostOn 66 = .ok (.iaload, 1) := by decide +kernel
theorem dX9_lostOn_67 : decode cX9_lostOn 67 = .ok (.iload_n 3, 1) := by decide +kernel
theorem dX9_lostOn_68 : decode cX9_lostOn 68 = .ok (.imul, 1) := by decide +kernel
theorem dX9_lostOn_69 : decode cX9_lostOn 69 = .ok (.ireturn, 1) := by decide +kernel
theorem dX9_lostBy_0 : decode cX9_lostBy 0 = .ok (.iconst 0, 1) := by decide +kernel
theorem dX9_lostBy_1 : decode cX9_lostBy 1 = .ok (.istore_n 3, 1) := by decide +kernel
theorem dX9_lostBy_2 : decode cX9_lostBy 2 = .ok (.iconst 0, 1) := by decide +kernel
theorem dX9_lostBy_3 : decode cX9_lostBy 3 = .ok (.istore 4, 2) := by decide +kernel
theorem dX9_lostBy_5 : decode cX9_lostBy 5 = .ok (.iload 4, 2) := by decide +kernel
theorem dX9_lostBy_7 : decode cX9_lostBy 7 = .ok (.aload_n 0, 1) := by decide +kernel
theorem dX9_lostBy_8 : decode cX9_lostBy 8 = .ok (.iload_n 1, 1) := by decide +kernel
theorem dX9_lostBy_9 : decode cX9_lostBy 9 = .ok (.invokevirtual 179, 3) := by decide +kernel
theorem dX9_lostBy_12 : decode cX9_lostBy 12 = .ok (.if_icmp .ge 27, 3) := by decide +kernel
theorem dX9_lostBy_15 : decode cX9_lostBy 15 = .ok (.iload_n 3, 1) := by decide +kernel
theorem dX9_lostBy_16 : decode cX9_lostBy 16 = .ok (.aload_n 0, 1) := by decide +kernel
theorem dX9_lostBy_17 : decode cX9_lostBy 17 = .ok (.iload_n 2, 1) := by decide +kernel
theorem dX9_lostBy_18 : decode cX9_lostBy 18 = .ok (.iload 4, 2) := by decide +kernel
theorem dX9_lostBy_20 : decode cX9_lostBy 20 = .ok (.iadd, 1) := by decide +kernel
theorem dX9_lostBy_21 : decode cX9_lostBy 21 = .ok (.aload_n 0, 1) := by decide +kernel
theorem dX9_lostBy_22 : decode cX9_lostBy 22 = .ok (.iload_n 1, 1) := by decide +kernel
theorem dX9_lostBy_23 : decode cX9_lostBy 23 = .ok (.iload 4, 2) := by decide +kernel
theorem dX9_lostBy_25 : decode cX9_lostBy 25 = .ok (.invokevirtual 185, 3) := by decide +kernel
theorem dX9_lostBy_28 : decode cX9_lostBy 28 = .ok (.invokevirtual 194, 3) := by decide +kernel
theorem dX9_lostBy_31 : decode cX9_lostBy 31 = .ok (.iadd, 1) := by decide +kernel
theorem dX9_lostBy_32 : decode cX9_lostBy 32 = .ok (.istore_n 3, 1) := by decide +kernel
theorem dX9_lostBy_33 : decode cX9_lostBy 33 = .ok (.iinc 4 1, 3) := by decide +kernel
theorem dX9_lostBy_36 : decode cX9_lostBy 36 = .ok (.goto (-31), 3) := by decide +kernel
theorem dX9_lostBy_39 : decode cX9_lostBy 39 = .ok (.iload_n 3, 1) := by decide +kernel
theorem dX9_lostBy_40 : decode cX9_lostBy 40 = .ok (.ireturn, 1) := by decide +kernel
theorem dX9_lost_0 : decode cX9_lost 0 = .ok (.aload_n 0, 1) := by decide +kernel
theorem dX9_lost_1 : decode cX9_lost 1 = .ok (.iload_n 1, 1) := by decide +kernel
theorem dX9_lost_2 : decode cX9_lost 2 = .ok (.invokevirtual 174, 3) := by decide +kernel
theorem dX9_lost_5 : decode cX9_lost 5 = .ok (.ifCond .eq 11, 3) := by decide +kernel
theorem dX9_lost_8 : decode cX9_lost 8 = .ok (.aload_n 0, 1) := by decide +kernel
theorem dX9_lost_9 : decode cX9_lost 9 = .ok (.iload_n 2, 1) := by decide +kernel
theorem dX9_lost_10 : decode cX9_lost 10 = .ok (.invokevirtual 94, 3) := by decide +kernel
theorem dX9_lost_13 : decode cX9_lost 13 = .ok (.ifCond .ne 7, 3) := by decide +kernel
theorem dX9_lost_16 : decode cX9_lost 16 = .ok (.iconst (-1), 1) := by decide +kernel
theorem dX9_lost_17 : decode cX9_lost 17 = .ok (.goto 23, 3) := by decide +kernel
theorem dX9_lost_20 : decode cX9_lost 20 = .ok (.aload_n 0, 1) := by decide +kernel
theorem dX9_lost_21 : decode cX9_lost 21 = .ok (.iload_n 1, 1) := by decide +kernel
theorem dX9_lost_22 : decode cX9_lost 22 = .ok (.iload_n 2, 1) := by decide +kernel
theorem dX9_lost_23 : decode cX9_lost 23 = .ok (.invokevirtual 182, 3) := by decide +kernel
theorem dX9_lost_26 : decode cX9_lost 26 = .ok (.ifCond .eq 12, 3) := by decide +kernel
theorem dX9_lost_29 : decode cX9_lost 29 = .ok (.aload_n 0, 1) := by decide +kernel
theorem dX9_lost_30 : decode cX9_lost 30 = .ok (.iload_n 1, 1) := by decide +kernel
theorem dX9_lost_31 : decode cX9_lost 31 = .ok (.iload_n 2, 1) := by decide +kernel
theorem dX9_lost_32 : decode cX9_lost 32 = .ok (.invokevirtual 197, 3) := by decide +kernel
theorem dX9_lost_35 : decode cX9_lost 35 = .ok (.goto 5, 3) := by decide +kernel
theorem dX9_lost_38 : decode cX9_lost 38 = .ok (.bipush (-2), 2) := by decide +kernel
theorem dX9_lost_40 : decode cX9_lost 40 = .ok (.ireturn, 1) := by decide +kernel
theorem dX9_findRow_0 : decode cX9_findRow 0 = .ok (.aload_n 0, 1) := by decide +kernel
theorem dX9_findRow_1 : decode cX9_findRow 1 = .ok (.getfield 37, 3) := by decide +kernel
theorem dX9_findRow_4 : decode cX9_findRow 4 = .ok (.aload_n 0, 1) := by decide +kernel
theorem dX9_findRow_5 : decode cX9_findRow 5 = .ok (.getfield 71, 3) := by decide +kernel
theorem dX9_findRow_8 : decode cX9_findRow 8 = .ok (.iconst 0, 1) := by decide +kernel
theorem dX9_findRow_9 : decode cX9_findRow 9 = .ok (.iastore, 1) := by decide +kernel
theorem dX9_findRow_10 : decode cX9_findRow 10 = .ok (.aload_n 0, 1) := by decide +kernel
theorem dX9_findRow_11 : decode cX9_findRow 11 = .ok (.getfield 71, 3) := by decide +kernel
theorem dX9_findRow_14 : decode cX9_findRow 14 = .ok (.iconst 1, 1) := by decide +kernel
theorem dX9_findRow_15 : decode cX9_findRow 15 = .ok (.isub, 1) := by decide +kernel
theorem dX9_findRow_16 : decode cX9_findRow 16 = .ok (.istore_n 1, 1) := by decide +kernel
theorem dX9_findRow_17 : decode cX9_findRow 17 = .ok (.iload_n 1, 1) := by decide +kernel
theorem dX9_findRow_18 : decode cX9_findRow 18 = .ok (.ifCond .lt 105, 3) := by decide +kernel
theorem dX9_findRow_21 : decode cX9_findRow 21 = .ok (.aload_n 0, 1) := by decide +kernel
theorem dX9_findRow_22 : decode cX9_findRow 22 = .ok (.getfield 37, 3) := by decide +kernel
theorem dX9_findRow_25 : decode cX9_findRow 25 = .ok (.iload_n 1, 1) := by decide +kernel
theorem dX9_findRow_26 : decode cX9_findRow 26 = .ok (.aload_n 0, 1) := by decide +kernel
theorem dX9_findRow_27 : decode cX9_findRow 27 = .ok (.getfield 37, 3) := by decide +kernel
theorem dX9_findRow_30 : decode cX9_findRow 30 = .ok (.iload_n 1, 1) := by decide +kernel
theorem dX9_findRow_31 : decode cX9_findRow 31 = .ok (.iconst 1, 1) := by decide +kernel
theorem dX9_findRow_32 : decode cX9_findRow 32 = .ok (.iadd, 1) := by decide +kernel
theorem dX9_findRow_33 : decode cX9_findRow 33 = .ok (.iaload, 1) := by decide +kernel
theorem dX9_findRow_34 : decode cX9_findRow 34 = .ok (.iastore, 1) := by decide +kernel
theorem dX9_findRow_35 : decode cX9_findRow 35 = .ok (.iconst 0, 1) := by decide +kernel
theorem dX9_findRow_36 : decode cX9_findRow 36 = .ok (.istore_n 2, 1) := by decide +kernel
theorem dX9_findRow_37 : decode cX9_findRow 37 = .ok (.iload_n 2, 1) := by decide +kernel
theorem dX9_findRow_38 : decode cX9_findRow 38 = .ok (.aload_n 0, 1) := by decide +kernel
theorem dX9_findRow_39 : decode cX9_findRow 39 = .ok (.getfield 83, 3) := by decide +kernel
theorem dX9_findRow_42 : decode cX9_findRow 42 = .ok (.if_icmp .ge 75, 3) := by decide +kernel
theorem dX9_findRow_45 : decode cX9_findRow 45 = .ok (.aload_n 0, 1) := by decide +kernel
theorem dX9_findRow_46 : decode cX9_findRow 46 = .ok (.getfield 43, 3) := by decide +kernel
theorem dX9_findRow_49 : decode cX9_findRow 49 = .ok (.bipush 10, 2) := by decide +kernel
theorem dX9_findRow_51 : decode cX9_findRow 51 = .ok (.iload_n 1, 1) := by decide +kernel
theorem dX9_findRow_52 : decode cX9_findRow 52 = .ok (.imul, 1) := by decide +kernel
theorem dX9_findRow_53 : decode cX9_findRow 53 = .ok (.iload_n 2, 1) := by decide +kernel
theorem dX9_findRow_54 : decode cX9_findRow 54 = .ok (.iadd, 1) := by decide +kernel
theorem dX9_findRow_55 : decode cX9_findRow 55 = .ok (.iaload, 1) := by decide +kernel
theorem dX9_findRow_56 : decode cX9_findRow 56 = .ok (.iconst 1, 1) := by decide +kernel
theorem dX9_findRow_57 : decode cX9_findRow 57 = .ok (.if_icmp .ne 54, 3) := by decide +kernel
theorem dX9_findRow_60 : decode cX9_findRow 60 = .ok (.aload_n 0, 1) := by decide +kernel
theorem dX9_findRow_61 : decode cX9_findRow 61 = .ok (.getfield 46, 3) := by decide +kernel
theorem dX9_findRow_64 : decode cX9_findRow 64 = .ok (.bipush 10, 2) := by decide +kernel
theorem dX9_findRow_66 : decode cX9_findRow 66 = .ok (.iload_n 1, 1) := by decide +kernel
theorem dX9_findRow_67 : decode cX9_findRow 67 = .ok (.imul, 1) := by decide +kernel
theorem dX9_findRow_68 : decode cX9_findRow 68 = .ok (.iload_n 2, 1) := by decide +kernel
theorem dX9_findRow_69 : decode cX9_findRow 69 = .ok (.iadd, 1) := by decide +kernel
theorem dX9_findRow_70 : decode cX9_findRow 70 = .ok (.iaload, 1) := by decide +kernel
theorem dX9_findRow_71 : decode cX9_findRow 71 = .ok (.aload_n 0, 1) := by decide +kernel
theorem dX9_findRow_72 : decode cX9_findRow 72 = .ok (.getfield 37, 3) := by decide +kernel
theorem dX9_findRow_75 : decode cX9_findRow 75 = .ok (.iload_n 1, 1) := by decide +kernel
theorem dX9_findRow_76 : decode cX9_findRow 76 = .ok (.aload_n 0, 1) := by decide +kernel
theorem dX9_findRow_77 : decode cX9_findRow 77 = .ok (.iload_n 2, 1) := by decide +kernel
theorem dX9_findRow_78 : decode cX9_findRow 78 = .ok (.invokevirtual 179, 3) := by decide +kernel
theorem dX9_findRow_81 : decode cX9_findRow 81 = .ok (.iadd, 1) := by decide +kernel
theorem dX9_findRow_82 : decode cX9_findRow 82 = .ok (.iaload, 1) := by decide +kernel
theorem dX9_findRow_83 : decode cX9_findRow 83 = .ok (.iadd, 1) := by decide +kernel
theorem dX9_findRow_84 : decode cX9_findRow 84 = .ok (.istore_n 3, 1) := by decide +kernel
theorem dX9_findRow_85 : decode cX9_findRow 85 = .ok (.aload_n 0, 1) := by decide +kernel
theorem dX9_findRow_86 : decode cX9_findRow 86 = .ok (.getfield 37, 3) := by decide +kernel
theorem dX9_findRow_89 : decode cX9_findRow 89 = .ok (.iload_n 1, 1) := by decide +kernel
theorem dX9_findRow_90 : decode cX9_findRow 90 = .ok (.iload_n 3, 1) := by decide +kernel
theorem dX9_findRow_91 : decode cX9_findRow 91 = .ok (.aload_n 0, 1) := by decide +kernel
theorem dX9_findRow_92 : decode cX9_findRow 92 = .ok (.getfield 37, 3) := by decide +kernel
theorem dX9_findRow_95 : decode cX9_findRow 95 = .ok (.iload_n 1, 1) := by decide +kernel
theorem dX9_findRow_96 : decode cX9_findRow 96 = .ok (.iaload, 1) := by decide +kernel
theorem dX9_findRow_97 : decode cX9_findRow 97 = .ok (.if_icmp .le 7, 3) := by decide +kernel
theorem dX9_findRow_100 : decode cX9_findRow 100 = .ok (.iload_n 3, 1) := by decide +kernel
theorem dX9_findRow_101 : decode cX9_findRow 101 = .ok (.goto 9, 3) := by decide +kernel
theorem dX9_findRow_104 : decode cX9_findRow 104 = .ok (.aload_n 0, 1) := by decide +kernel
theorem dX9_findRow_105 : decode cX9_findRow 105 = .ok (.getfield 37, 3) := by decide +kernel
theorem dX9_findRow_108 : decode cX9_findRow 108 = .ok (.iload_n 1, 1) := by decide +kernel
theorem dX9_findRow_109 : decode cX9_findRow 109 = .ok (.iaload, 1) := by decide +kernel
theorem dX9_findRow_110 : decode cX9_findRow 110 = .ok (.iastore, 1) := by decide +kernel
theorem dX9_findRow_111 : decode cX9_findRow 111 = .ok (.iinc 2 1, 3) := by decide +kernel
theorem dX9_findRow_114 : decode cX9_findRow 114 = .ok (.goto (-77), 3) := by decide +kernel
theorem dX9_findRow_117 : decode cX9_findRow 117 = .ok (.iinc 1 (-1), 3) := by decide +kernel
theorem dX9_findRow_120 : decode cX9_findRow 120 = .ok (.goto (-103), 3) := by decide +kernel
theorem dX9_findRow_123 : decode cX9_findRow 123 = .ok (.aload_n 0, 1) := by decide +kernel
theorem dX9_findRow_124 : decode cX9_findRow 124 = .ok (.iconst 0, 1) := by decide +kernel
theorem dX9_findRow_125 : decode cX9_findRow 125 = .ok (.putfield 200, 3) := by decide +kernel
theorem dX9_findRow_128 : decode cX9_findRow 128 = .ok (.iconst 0, 1) := by decide +kernel
theorem dX9_findRow_129 : decode cX9_findRow 129 = .ok (.istore_n 1, 1) := by decide +kernel
theorem dX9_findRow_130 : decode cX9_findRow 130 = .ok (.iload_n 1, 1) := by decide +kernel
theorem dX9_findRow_131 : decode cX9_findRow 131 = .ok (.aload_n 0, 1) := by decide +kernel
theorem dX9_findRow_132 : decode cX9_findRow 132 = .ok (.getfield 71, 3) := by decide +kernel
theorem dX9_findRow_135 : decode cX9_findRow 135 = .ok (.if_icmp .ge 137, 3) := by decide +kernel
theorem dX9_findRow_138 : decode cX9_findRow 138 = .ok (.bipush (-4), 2) := by decide +kernel
theorem dX9_findRow_140 : decode cX9_findRow 140 = .ok (.istore_n 2, 1) := by decide +kernel
theorem dX9_findRow_141 : decode cX9_findRow 141 = .ok (.aload_n 0, 1) := by decide +kernel
theorem dX9_findRow_142 : decode cX9_findRow 142 = .ok (.getfield 83, 3) := by decide +kernel
theorem dX9_findRow_145 : decode cX9_findRow 145 = .ok (.iconst 1, 1) := by decide +kernel
theorem dX9_findRow_146 : decode cX9_findRow 146 = .ok (.isub, 1) := by decide +kernel
theorem dX9_findRow_147 : decode cX9_findRow 147 = .ok (.istore_n 3, 1) := by decide +kernel
theorem dX9_findRow_148 : decode cX9_findRow 148 = .ok (.iload_n 3, 1) := by decide +kernel
theorem dX9_findRow_149 : decode cX9_findRow 149 = .ok (.ifCond .lt 75, 3) := by decide +kernel
theorem dX9_findRow_152 : decode cX9_findRow 152 = .ok (.aload_n 0, 1) := by decide +kernel
theorem dX9_findRow_153 : decode cX9_findRow 153 = .ok (.getfield 43, 3) := by decide +kernel
theorem dX9_findRow_156 : decode cX9_findRow 156 = .ok (.bipush 10, 2) := by decide +kernel
theorem dX9_findRow_158 : decode cX9_findRow 158 = .ok (.iload_n 1, 1) := by decide +kernel
theorem dX9_findRow_159 : decode cX9_findRow 159 = .ok (.imul, 1) := by decide +kernel
theorem dX9_findRow_160 : decode cX9_findRow 160 = .ok (.iload_n 3, 1) := by decide +kernel
theorem dX9_findRow_161 : decode cX9_findRow 161 = .ok (.iadd, 1) := by decide +kernel
theorem dX9_findRow_162 : decode cX9_findRow 162 = .ok (.iaload, 1) := by decide +kernel
theorem dX9_findRow_163 : decode cX9_findRow 163 = .ok (.iconst 1, 1) := by decide +kernel
theorem dX9_findRow_164 : decode cX9_findRow 164 = .ok (.if_icmp .ne 40, 3) := by decide +kernel
theorem dX9_findRow_167 : decode cX9_findRow 167 = .ok (.aload_n 0, 1) := by decide +kernel
theorem dX9_findRow_168 : decode cX9_findRow 168 = .ok (.getfield 46, 3) := by decide +kernel
theorem dX9_findRow_171 : decode cX9_findRow 171 = .ok (.bipush 10, 2) := by decide +kernel
theorem dX9_findRow_173 : decode cX9_findRow 173 = .ok (.iload_n 1, 1) := by decide +kernel
theorem dX9_findRow_174 : decode cX9_findRow 174 = .ok (.imul, 1) := by decide +kernel
theorem dX9_findRow_175 : decode cX9_findRow 175 = .ok (.iload_n 3, 1) := by decide +kernel
theorem dX9_findRow_176 : decode cX9_findRow 176 = .ok (.iadd, 1) := by decide +kernel
theorem dX9_findRow_177 : decode cX9_findRow 177 = .ok (.iaload, 1) := by decide +kernel
theorem dX9_findRow_178 : decode cX9_findRow 178 = .ok (.aload_n 0, 1) := by decide +kernel
theorem dX9_findRow_179 : decode cX9_findRow 179 = .ok (.getfield 37, 3) := by decide +kernel
theorem dX9_findRow_182 : decode cX9_findRow 182 = .ok (.iload_n 1, 1) := by decide +kernel
theorem dX9_findRow_183 : decode cX9_findRow 183 = .ok (.aload_n 0, 1) := by decide +kernel
theorem dX9_findRow_184 : decode cX9_findRow 184 = .ok (.iload_n 3, 1) := by decide +kernel
theorem dX9_findRow_185 : decode cX9_findRow 185 = .ok (.invokevirtual 179, 3) := by decide +kernel
theorem dX9_findRow_188 : decode cX9_findRow 188 = .ok (.iadd, 1) := by decide +kernel
theorem dX9_findRow_189 : decode cX9_findRow 189 = .ok (.iaload, 1) := by decide +kernel
theorem dX9_findRow_190 : decode cX9_findRow 190 = .ok (.iadd, 1) := by decide +kernel
theorem dX9_findRow_191 : decode cX9_findRow 191 = .ok (.aload_n 0, 1) := by decide +kernel
theorem dX9_findRow_192 : decode cX9_findRow 192 = .ok (.getfield 37, 3) := by decide +kernel
theorem dX9_findRow_195 : decode cX9_findRow 195 = .ok (.iload_n 1, 1) := by decide +kernel
theorem dX9_findRow_196 : decode cX9_findRow 196 = .ok (.iaload, 1) := by decide +kernel
theorem dX9_findRow_197 : decode cX9_findRow 197 = .ok (.if_icmp .ne 7, 3) := by decide +kernel
theorem dX9_findRow_200 : decode cX9_findRow 200 = .ok (.iconst 1, 1) := by decide +kernel
theorem dX9_findRow_201 : decode cX9_findRow 201 = .ok (.goto 4, 3) := by decide +kernel
theorem dX9_findRow_204 : decode cX9_findRow 204 = .ok (.iconst 0, 1) := by decide +kernel
theorem dX9_findRow_205 : decode cX9_findRow 205 = .ok (.istore 4, 2) := by decide +kernel
theorem dX9_findRow_207 : decode cX9_findRow 207 = .ok (.iload 4, 2) := by decide +kernel
theorem dX9_findRow_209 : decode cX9_findRow 209 = .ok (.ifCond .eq 7, 3) := by decide +kernel
theorem dX9_findRow_212 : decode cX9_findRow 212 = .ok (.iload_n 3, 1) := by decide +kernel
theorem dX9_findRow_213 : decode cX9_findRow 213 = .ok (.goto 4, 3) := by decide +kernel
theorem dX9_findRow_216 : decode cX9_findRow 216 = .ok (.iload_n 2, 1) := by decide +kernel
theorem dX9_findRow_217 : decode cX9_findRow 217 = .ok (.istore_n 2, 1) := by decide +kernel
theorem dX9_findRow_218 : decode cX9_findRow 218 = .ok (.iinc 3 (-1), 3) := by decide +kernel
theorem dX9_findRow_221 : decode cX9_findRow 221 = .ok (.goto (-73), 3) := by decide +kernel
theorem dX9_findRow_224 : decode cX9_findRow 224 = .ok (.iload_n 2, 1) := by decide +kernel
theorem dX9_findRow_225 : decode cX9_findRow 225 = .ok (.ifCond .lt 28, 3) := by decide +kernel
theorem dX9_findRow_228 : decode cX9_findRow 228 = .ok (.aload_n 0, 1) := by decide +kernel
theorem dX9_findRow_229 : decode cX9_findRow 229 = .ok (.getfield 40, 3) := by decide +kernel
theorem dX9_findRow_232 : decode cX9_findRow 232 = .ok (.aload_n 0, 1) := by decide +kernel
theorem dX9_findRow_233 : decode cX9_findRow 233 = .ok (.getfield 200, 3) := by decide +kernel
theorem dX9_findRow_236 : decode cX9_findRow 236 = .ok (.bipush 10, 2) := by decide +kernel
theorem dX9_findRow_238 : decode cX9_findRow 238 = .ok (.iload_n 1, 1) := by decide +kernel
theorem dX9_findRow_239 : decode cX9_findRow 239 = .ok (.imul, 1) := by decide +kernel
theorem dX9_findRow_240 : decode cX9_findRow 240 = .ok (.iload_n 2, 1) := by decide +kernel
theorem dX9_findRow_241 : decode cX9_findRow 241 = .ok (.iadd, 1) := by decide +kernel
theorem dX9_findRow_242 : decode cX9_findRow 242 = .ok (.iastore, 1) := by decide +kernel
theorem dX9_findRow_243 : decode cX9_findRow 243 = .ok (.aload_n 0, 1) := by decide +kernel
theorem dX9_findRow_244 : decode cX9_findRow 244 = .ok (.dup, 1) := by decide +kernel
theorem dX9_findRow_245 : decode cX9_findRow 245 = .ok (.getfield 200, 3) := by decide +kernel
theorem dX9_findRow_248 : decode cX9_findRow 248 = .ok (.iconst 1, 1) := by decide +kernel
theorem dX9_findRow_249 : decode cX9_findRow 249 = .ok (.iadd, 1) := by decide +kernel
theorem dX9_findRow_250 : decode cX9_findRow 250 = .ok (.putfield 200, 3) := by decide +kernel
theorem dX9_findRow_253 : decode cX9_findRow 253 = .ok (.iload_n 1, 1) := by decide +kernel
theorem dX9_findRow_254 : decode cX9_findRow 254 = .ok (.iload_n 2, 1) := by decide +kernel
theorem dX9_findRow_255 : decode cX9_findRow 255 = .ok (.ifCond .ge 7, 3) := by decide +kernel
theorem dX9_findRow_258 : decode cX9_findRow 258 = .ok (.iconst 1, 1) := by decide +kernel
theorem dX9_findRow_259 : decode cX9_findRow 259 = .ok (.goto 8, 3) := by decide +kernel
theorem dX9_findRow_262 : decode cX9_findRow 262 = .ok (.aload_n 0, 1) := by decide +kernel
theorem dX9_findRow_263 : decode cX9_findRow 263 = .ok (.iload_n 2, 1) := by decide +kernel
theorem dX9_findRow_264 : decode cX9_findRow 264 = .ok (.invokevirtual 179, 3) := by decide +kernel
theorem dX9_findRow_267 : decode cX9_findRow 267 = .ok (.iadd, 1) := by decide +kernel
theorem dX9_findRow_268 : decode cX9_findRow 268 = .ok (.istore_n 1, 1) := by decide +kernel
theorem dX9_findRow_269 : decode cX9_findRow 269 = .ok (.goto (-139), 3) := by decide +kernel
theorem dX9_findRow_272 : decode cX9_findRow 272 = .ok (.return_, 1) := by decide +kernel
theorem dX9_tellRow_0 : decode cX9_tellRow 0 = .ok (.iload_n 1, 1) := by decide +kernel
theorem dX9_tellRow_1 : decode cX9_tellRow 1 = .ok (.iconst (-1), 1) := by decide +kernel
theorem dX9_tellRow_2 : decode cX9_tellRow 2 = .ok (.if_icmp .ne 12, 3) := by decide +kernel
theorem dX9_tellRow_5 : decode cX9_tellRow 5 = .ok (.aload_n 0, 1) := by decide +kernel
theorem dX9_tellRow_6 : decode cX9_tellRow 6 = .ok (.getfield 37, 3) := by decide +kernel
theorem dX9_tellRow_9 : decode cX9_tellRow 9 = .ok (.iconst 0, 1) := by decide +kernel
theorem dX9_tellRow_10 : decode cX9_tellRow 10 = .ok (.iaload, 1) := by decide +kernel
theorem dX9_tellRow_11 : decode cX9_tellRow 11 = .ok (.goto 35, 3) := by decide +kernel
theorem dX9_tellRow_14 : decode cX9_tellRow 14 = .ok (.iload_n 1, 1) := by decide +kernel
theorem dX9_tellRow_15 : decode cX9_tellRow 15 = .ok (.bipush (-2), 2) := by decide +kernel
theorem dX9_tellRow_17 : decode cX9_tellRow 17 = .ok (.if_icmp .ne 10, 3) := by decide +kernel
theorem dX9_tellRow_20 : decode cX9_tellRow 20 = .ok (.aload_n 0, 1) := by decide +kernel
theorem dX9_tellRow_21 : decode cX9_tellRow 21 = .ok (.getfield 200, 3) := by decide +kernel
theorem dX9_tellRow_24 : decode cX9_tellRow 24 = .ok (.goto 22, 3) := by decide +kernel
theorem dX9_tellRow_27 : decode cX9_tellRow 27 = .ok (.iload_n 1, 1) := by decide +kernel
theorem dX9_tellRow_28 : decode cX9_tellRow 28 = .ok (.aload_n 0, 1) := by decide +kernel
theorem dX9_tellRow_29 : decode cX9_tellRow 29 = .ok (.getfield 200, 3) := by decide +kernel
theorem dX9_tellRow_32 : decode cX9_tellRow 32 = .ok (.if_icmp .ge 12, 3) := by decide +kernel
theorem dX9_tellRow_35 : decode cX9_tellRow 35 = .ok (.aload_n 0, 1) := by decide +kernel
theorem dX9_tellRow_36 : decode cX9_tellRow 36 = .ok (.getfield 40, 3) := by decide +kernel
theorem dX9_tellRow_39 : decode cX9_tellRow 39 = .ok (.iload_n 1, 1) := by decide +kernel
theorem dX9_tellRow_40 : decode cX9_tellRow 40 = .ok (.iaload, 1) := by decide +kernel
theorem dX9_tellRow_41 : decode cX9_tellRow 41 = .ok (.goto 5, 3) := by decide +kernel
theorem dX9_tellRow_44 : decode cX9_tellRow 44 = .ok (.bipush (-4), 2) := by decide +kernel
theorem dX9_tellRow_46 : decode cX9_tellRow 46 = .ok (.ireturn, 1) := by decide +kernel
theorem dX9_read_0 : decode cX9_read 0 = .ok (.iload_n 1, 1) := by decide +kernel
theorem dX9_read_1 : decode cX9_read 1 = .ok (.i2l, 1) := by decide +kernel
theorem dX9_read_2 : decode cX9_read 2 = .ok (.ldc2_w 203, 3) := by decide +kernel
theorem dX9_read_5 : decode cX9_read 5 = .ok (.ldc2_w 133, 3) := by decide +kernel
theorem dX9_read_8 : decode cX9_read 8 = .ok (.invokestatic 75, 3) := by decide +kernel
theorem dX9_read_11 : decode cX9_read 11 = .ok (.ifCond .ne 5, 3) := by decide +kernel
theorem dX9_read_14 : decode cX9_read 14 = .ok (.iconst (-1), 1) := by decide +kernel
theorem dX9_read_15 : decode cX9_read 15 = .ok (.ireturn, 1) := by decide +kernel
theorem dX9_read_16 : decode cX9_read 16 = .ok (.iconst 0, 1) := by decide +kernel
theorem dX9_read_17 : decode cX9_read 17 = .ok (.istore_n 2, 1) := by decide +kernel
theorem dX9_read_18 : decode cX9_read 18 = .ok (.iload_n 2, 1) := by decide +kernel
theorem dX9_read_19 : decode cX9_read 19 = .ok (.aload_n 0, 1) := by decide +kernel
theorem dX9_read_20 : decode cX9_read 20 = .ok (.getfield 71, 3) := by decide +kernel
theorem dX9_read_23 : decode cX9_read 23 = .ok (.if_icmp .ge 72, 3) := by decide +kernel
theorem dX9_read_26 : decode cX9_read 26 = .ok (.iconst 0, 1) := by decide +kernel
theorem dX9_read_27 : decode cX9_read 27 = .ok (.istore_n 3, 1) := by decide +kernel
theorem dX9_read_28 : decode cX9_read 28 = .ok (.iload_n 3, 1) := by decide +kernel
theorem dX9_read_29 : decode cX9_read 29 = .ok (.aload_n 0, 1) := by decide +kernel
theorem dX9_read_30 : decode cX9_read 30 = .ok (.getfield 83, 3) := by decide +kernel
theorem dX9_read_33 : decode cX9_read 33 = .ok (.if_icmp .ge 56, 3) := by decide +kernel
theorem dX9_read_36 : decode cX9_read 36 = .ok (.aload_n 0, 1) := by decide +kernel
theorem dX9_read_37 : decode cX9_read 37 = .ok (.getfield 43, 3) := by decide +kernel
theorem dX9_read_40 : decode cX9_read 40 = .ok (.bipush 10, 2) := by decide +kernel
theorem dX9_read_42 : decode cX9_read 42 = .ok (.iload_n 2, 1) := by decide +kernel
theorem dX9_read_43 : decode cX9_read 43 = .ok (.imul, 1) := by decide +kernel
theorem dX9_read_44 : decode cX9_read 44 = .ok (.iload_n 3, 1) := by decide +kernel
theorem dX9_read_45 : decode cX9_read 45 = .ok (.iadd, 1) := by decide +kernel
theorem dX9_read_46 : decode cX9_read 46 = .ok (.aload_n 0, 1) := by decide +kernel
theorem dX9_read_47 : decode cX9_read 47 = .ok (.iload_n 3, 1) := by decide +kernel
theorem dX9_read_48 : decode cX9_read 48 = .ok (.iload_n 2, 1) := by decide +kernel
theorem dX9_read_49 : decode cX9_read 49 = .ok (.invokevirtual 188, 3) := by decide +kernel
theorem dX9_read_52 : decode cX9_read 52 = .ok (.ifCond .eq 7, 3) := by decide +kernel
theorem dX9_read_55 : decode cX9_read 55 = .ok (.iconst 1, 1) := by decide +kernel
theorem dX9_read_56 : decode cX9_read 56 = .ok (.goto 4, 3) := by decide +kernel
theorem dX9_read_59 : decode cX9_read 59 = .ok (.iconst 0, 1) := by decide +kernel
theorem dX9_read_60 : decode cX9_read 60 = .ok (.iastore, 1) := by decide +kernel
theorem dX9_read_61 : decode cX9_read 61 = .ok (.aload_n 0, 1) := by decide +kernel
theorem dX9_read_62 : decode cX9_read 62 = .ok (.getfield 46, 3) := by decide +kernel
theorem dX9_read_65 : decode cX9_read 65 = .ok (.bipush 10, 2) := by decide +kernel
theorem dX9_read_67 : decode cX9_read 67 = .ok (.iload_n 2, 1) := by decide +kernel
theorem dX9_read_68 : decode cX9_read 68 = .ok (.imul, 1) := by decide +kernel
theorem dX9_read_69 : decode cX9_read 69 = .ok (.iload_n 3, 1) := by decide +kernel
theorem dX9_read_70 : decode cX9_read 70 = .ok (.iadd, 1) := by decide +kernel
theorem dX9_read_71 : decode cX9_read 71 = .ok (.aload_n 0, 1) := by decide +kernel
theorem dX9_read_72 : decode cX9_read 72 = .ok (.getfield 28, 3) := by decide +kernel
theorem dX9_read_75 : decode cX9_read 75 = .ok (.bipush 8, 2) := by decide +kernel
theorem dX9_read_77 : decode cX9_read 77 = .ok (.iload_n 3, 1) := by decide +kernel
theorem dX9_read_78 : decode cX9_read 78 = .ok (.imul, 1) := by decide +kernel
theorem dX9_read_79 : decode cX9_read 79 = .ok (.iconst 1, 1) := by decide +kernel
theorem dX9_read_80 : decode cX9_read 80 = .ok (.iadd, 1) := by decide +kernel
theorem dX9_read_81 : decode cX9_read 81 = .ok (.iaload, 1) := by decide +kernel
theorem dX9_read_82 : decode cX9_read 82 = .ok (.iastore, 1) := by decide +kernel
theorem dX9_read_83 : decode cX9_read 83 = .ok (.iinc 3 1, 3) := by decide +kernel
theorem dX9_read_86 : decode cX9_read 86 = .ok (.goto (-58), 3) := by decide +kernel
theorem dX9_read_89 : decode cX9_read 89 = .ok (.iinc 2 1, 3) := by decide +kernel
theorem dX9_read_92 : decode cX9_read 92 = .ok (.goto (-74), 3) := by decide +kernel
theorem dX9_read_95 : decode cX9_read 95 = .ok (.aload_n 0, 1) := by decide +kernel
theorem dX9_read_96 : decode cX9_read 96 = .ok (.invokevirtual 205, 3) := by decide +kernel
theorem dX9_read_99 : decode cX9_read 99 = .ok (.aload_n 0, 1) := by decide +kernel
theorem dX9_read_100 : decode cX9_read 100 = .ok (.iload_n 1, 1) := by decide +kernel
theorem dX9_read_101 : decode cX9_read 101 = .ok (.invokevirtual 208, 3) := by decide +kernel
theorem dX9_read_104 : decode cX9_read 104 = .ok (.ireturn, 1) := by decide +kernel
theorem dX9_plan_0 : decode cX9_plan 0 = .ok (.iload_n 1, 1) := by decide +kernel
theorem dX9_plan_1 : decode cX9_plan 1 = .ok (.i2l, 1) := by decide +kernel
theorem dX9_plan_2 : decode cX9_plan 2 = .ok (.ldc2_w 203, 3) := by decide +kernel
theorem dX9_plan_5 : decode cX9_plan 5 = .ok (.ldc2_w 133, 3) := by decide +kernel
theorem dX9_plan_8 : decode cX9_plan 8 = .ok (.invokestatic 75, 3) := by decide +kernel
theorem dX9_plan_11 : decode cX9_plan 11 = .ok (.ifCond .ne 5, 3) := by decide +kernel
theorem dX9_plan_14 : decode cX9_plan 14 = .ok (.iconst (-1), 1) := by decide +kernel
theorem dX9_plan_15 : decode cX9_plan 15 = .ok (.ireturn, 1) := by decide +kernel
theorem dX9_plan_16 : decode cX9_plan 16 = .ok (.iconst 0, 1) := by decide +kernel
theorem dX9_plan_17 : decode cX9_plan 17 = .ok (.istore_n 2, 1) := by decide +kernel
theorem dX9_plan_18 : decode cX9_plan 18 = .ok (.iload_n 2, 1) := by decide +kernel
theorem dX9_plan_19 : decode cX9_plan 19 = .ok (.aload_n 0, 1) := by decide +kernel
theorem dX9_plan_20 : decode cX9_plan 20 = .ok (.getfield 71, 3) := by decide +kernel
theorem dX9_plan_23 : decode cX9_plan 23 = .ok (.if_icmp .ge 92, 3) := by decide +kernel
theorem dX9_plan_26 : decode cX9_plan 26 = .ok (.iconst 0, 1) := by decide +kernel
theorem dX9_plan_27 : decode cX9_plan 27 = .ok (.istore_n 3, 1) := by decide +kernel
theorem dX9_plan_28 : decode cX9_plan 28 = .ok (.iload_n 3, 1) := by decide +kernel
theorem dX9_plan_29 : decode cX9_plan 29 = .ok (.aload_n 0, 1) := by decide +kernel
theorem dX9_plan_30 : decode cX9_plan 30 = .ok (.getfield 83, 3) := by decide +kernel
theorem dX9_plan_33 : decode cX9_plan 33 = .ok (.if_icmp .ge 76, 3) := by decide +kernel
theorem dX9_plan_36 : decode cX9_plan 36 = .ok (.aload_n 0, 1) := by decide +kernel
theorem dX9_plan_37 : decode cX9_plan 37 = .ok (.getfield 43, 3) := by decide +kernel
theorem dX9_plan_40 : decode cX9_plan 40 = .ok (.bipush 10, 2) := by decide +kernel
theorem dX9_plan_42 : decode cX9_plan 42 = .ok (.iload_n 2, 1) := by decide +kernel
theorem dX9_plan_43 : decode cX9_plan 43 = .ok (.imul, 1) := by decide +kernel
theorem dX9_plan_44 : decode cX9_plan 44 = .ok (.iload_n 3, 1) := by decide +kernel
theorem dX9_plan_45 : decode cX9_plan 45 = .ok (.iadd, 1) := by decide +kernel
theorem dX9_plan_46 : decode cX9_plan 46 = .ok (.aload_n 0, 1) := by decide +kernel
theorem dX9_plan_47 : decode cX9_plan 47 = .ok (.iload_n 3, 1) := by decide +kernel
theorem dX9_plan_48 : decode cX9_plan 48 = .ok (.iload_n 2, 1) := by decide +kernel
theorem dX9_plan_49 : decode cX9_plan 49 = .ok (.invokevirtual 191, 3) := by decide +kernel
theorem dX9_plan_52 : decode cX9_plan 52 = .ok (.ifCond .eq 7, 3) := by decide +kernel
theorem dX9_plan_55 : decode cX9_plan 55 = .ok (.iconst 1, 1) := by decide +kernel
theorem dX9_plan_56 : decode cX9_plan 56 = .ok (.goto 4, 3) := by decide +kernel
theorem dX9_plan_59 : decode cX9_plan 59 = .ok (.iconst 0, 1) := by decide +kernel
theorem dX9_plan_60 : decode cX9_plan 60 = .ok (.iastore, 1) := by decide +kernel
theorem dX9_plan_61 : decode cX9_plan 61 = .ok (.aload_n 0, 1) := by decide +kernel
theorem dX9_plan_62 : decode cX9_plan 62 = .ok (.getfield 46, 3) := by decide +kernel
theorem dX9_plan_65 : decode cX9_plan 65 = .ok (.bipush 10, 2) := by decide +kernel
theorem dX9_plan_67 : decode cX9_plan 67 = .ok (.iload_n 2, 1) := by decide +kernel
theorem dX9_plan_68 : decode cX9_plan 68 = .ok (.imul, 1) := by decide +kernel
theorem dX9_plan_69 : decode cX9_plan 69 = .ok (.iload_n 3, 1) := by decide +kernel
theorem dX9_plan_70 : decode cX9_plan 70 = .ok (.iadd, 1) := by decide +kernel
theorem dX9_plan_71 : decode cX9_plan 71 = .ok (.aload_n 0, 1) := by decide +kernel
theorem dX9_plan_72 : decode cX9_plan 72 = .ok (.iload_n 3, 1) := by decide +kernel
theorem dX9_plan_73 : decode cX9_plan 73 = .ok (.iload_n 2, 1) := by decide +kernel
theorem dX9_plan_74 : decode cX9_plan 74 = .ok (.invokevirtual 182, 3) := by decide +kernel
theorem dX9_plan_77 : decode cX9_plan 77 = .ok (.ifCond .eq 24, 3) := by decide +kernel
theorem dX9_plan_80 : decode cX9_plan 80 = .ok (.aload_n 0, 1) := by decide +kernel
theorem dX9_plan_81 : decode cX9_plan 81 = .ok (.getfield 28, 3) := by decide +kernel
theorem dX9_plan_84 : decode cX9_plan 84 = .ok (.bipush 8, 2) := by decide +kernel
theorem dX9_plan_86 : decode cX9_plan 86 = .ok (.iload_n 3, 1) := by decide +kernel
theorem dX9_plan_87 : decode cX9_plan 87 = .ok (.imul, 1) := by decide +kernel
theorem dX9_plan_88 : decode cX9_plan 88 = .ok (.iconst 1, 1) := by decide +kernel
theorem dX9_plan_89 : decode cX9_plan 89 = .ok (.iadd, 1) := by decide +kernel
theorem dX9_plan_90 : decode cX9_plan 90 = .ok (.iaload, 1) := by decide +kernel
theorem dX9_plan_91 : decode cX9_plan 91 = .ok (.aload_n 0, 1) := by decide +kernel
theorem dX9_plan_92 : decode cX9_plan 92 = .ok (.iload_n 3, 1) := by decide +kernel
theorem dX9_plan_93 : decode cX9_plan 93 = .ok (.iload_n 2, 1) := by decide +kernel
theorem dX9_plan_94 : decode cX9_plan 94 = .ok (.invokevirtual 197, 3) := by decide +kernel
theorem dX9_plan_97 : decode cX9_plan 97 = .ok (.isub, 1) := by decide +kernel
theorem dX9_plan_98 : decode cX9_plan 98 = .ok (.goto 4, 3) := by decide +kernel
theorem dX9_plan_101 : decode cX9_plan 101 = .ok (.iconst 0, 1) := by decide +kernel
theorem dX9_plan_102 : decode cX9_plan 102 = .ok (.iastore, 1) := by decide +kernel
theorem dX9_plan_103 : decode cX9_plan 103 = .ok (.iinc 3 1, 3) := by decide +kernel
theorem dX9_plan_106 : decode cX9_plan 106 = .ok (.goto (-78), 3) := by decide +kernel
theorem dX9_plan_109 : decode cX9_plan 109 = .ok (.iinc 2 1, 3) := by decide +kernel
theorem dX9_plan_112 : decode cX9_plan 112 = .ok (.goto (-94), 3) := by decide +kernel
theorem dX9_plan_115 : decode cX9_plan 115 = .ok (.aload_n 0, 1) := by decide +kernel
theorem dX9_plan_116 : decode cX9_plan 116 = .ok (.invokevirtual 205, 3) := by decide +kernel
theorem dX9_plan_119 : decode cX9_plan 119 = .ok (.aload_n 0, 1) := by decide +kernel
theorem dX9_plan_120 : decode cX9_plan 120 = .ok (.iload_n 1, 1) := by decide +kernel
theorem dX9_plan_121 : decode cX9_plan 121 = .ok (.invokevirtual 208, 3) := by decide +kernel
theorem dX9_plan_124 : decode cX9_plan 124 = .ok (.ireturn, 1) := by decide +kernel
theorem dX9_nearest_0 : decode cX9_nearest 0 = .ok (.aload_n 0, 1) := by decide +kernel
theorem dX9_nearest_1 : decode cX9_nearest 1 = .ok (.iload_n 1, 1) := by decide +kernel
theorem dX9_nearest_2 : decode cX9_nearest 2 = .ok (.invokevirtual 94, 3) := by decide +kernel
theorem dX9_nearest_5 : decode cX9_nearest 5 = .ok (.ifCond .eq 13, 3) := by decide +kernel
theorem dX9_nearest_8 : decode cX9_nearest 8 = .ok (.iload_n 2, 1) := by decide +kernel
theorem dX9_nearest_9 : decode cX9_nearest 9 = .ok (.i2l, 1) := by decide +kernel
theorem dX9_nearest_10 : decode cX9_nearest 10 = .ok (.lconst 0, 1) := by decide +kernel
theorem dX9_nearest_11 : decode cX9_nearest 11 = .ok (.lconst 1, 1) := by decide +kernel
theorem dX9_nearest_12 : decode cX9_nearest 12 = .ok (.invokestatic 75, 3) := by decide +kernel
theorem dX9_nearest_15 : decode cX9_nearest 15 = .ok (.ifCond .ne 5, 3) := by decide +kernel
theorem dX9_nearest_18 : decode cX9_nearest 18 = .ok (.iconst (-1), 1) := by decide +kernel
theorem dX9_nearest_19 : decode cX9_nearest 19 = .ok (.ireturn, 1) := by decide +kernel
theorem dX9_nearest_20 : decode cX9_nearest 20 = .ok (.bipush (-4), 2) := by decide +kernel
theorem dX9_nearest_22 : decode cX9_nearest 22 = .ok (.istore_n 3, 1) := by decide +kernel
theorem dX9_nearest_23 : decode cX9_nearest 23 = .ok (.iconst 0, 1) := by decide +kernel
theorem dX9_nearest_24 : decode cX9_nearest 24 = .ok (.istore 4, 2) := by decide +kernel
theorem dX9_nearest_26 : decode cX9_nearest 26 = .ok (.iconst 0, 1) := by decide +kernel
theorem dX9_nearest_27 : decode cX9_nearest 27 = .ok (.istore 5, 2) := by decide +kernel
theorem dX9_nearest_29 : decode cX9_nearest 29 = .ok (.iload 5, 2) := by decide +kernel
theorem dX9_nearest_31 : decode cX9_nearest 31 = .ok (.aload_n 0, 1) := by decide +kernel
theorem dX9_nearest_32 : decode cX9_nearest 32 = .ok (.getfield 83, 3) := by decide +kernel
theorem dX9_nearest_35 : decode cX9_nearest 35 = .ok (.if_icmp .ge 100, 3) := by decide +kernel
theorem dX9_nearest_38 : decode cX9_nearest 38 = .ok (.iconst 0, 1) := by decide +kernel
theorem dX9_nearest_39 : decode cX9_nearest 39 = .ok (.istore 6, 2) := by decide +kernel
theorem dX9_nearest_41 : decode cX9_nearest 41 = .ok (.iconst 0, 1) := by decide +kernel
theorem dX9_nearest_42 : decode cX9_nearest 42 = .ok (.istore 7, 2) := by decide +kernel
theorem dX9_nearest_44 : decode cX9_nearest 44 = .ok (.iload 7, 2) := by decide +kernel
theorem dX9_nearest_46 : decode cX9_nearest 46 = .ok (.aload_n 0, 1) := by decide +kernel
theorem dX9_nearest_47 : decode cX9_nearest 47 = .ok (.iload 5, 2) := by decide +kernel
theorem dX9_nearest_49 : decode cX9_nearest 49 = .ok (.invokevirtual 179, 3) := by decide +kernel
theorem dX9_nearest_52 : decode cX9_nearest 52 = .ok (.if_icmp .ge 49, 3) := by decide +kernel
theorem dX9_nearest_55 : decode cX9_nearest 55 = .ok (.aload_n 0, 1) := by decide +kernel
theorem dX9_nearest_56 : decode cX9_nearest 56 = .ok (.iload 5, 2) := by decide +kernel
theorem dX9_nearest_58 : decode cX9_nearest 58 = .ok (.iload_n 1, 1) := by decide +kernel
theorem dX9_nearest_59 : decode cX9_nearest 59 = .ok (.invokevirtual 182, 3) := by decide +kernel
theorem dX9_nearest_62 : decode cX9_nearest 62 = .ok (.ifCond .eq 39, 3) := by decide +kernel
theorem dX9_nearest_65 : decode cX9_nearest 65 = .ok (.iload 6, 2) := by decide +kernel
theorem dX9_nearest_67 : decode cX9_nearest 67 = .ok (.aload_n 0, 1) := by decide +kernel
theorem dX9_nearest_68 : decode cX9_nearest 68 = .ok (.iload_n 1, 1) := by decide +kernel
theorem dX9_nearest_69 : decode cX9_nearest 69 = .ok (.iload 7, 2) := by decide +kernel
theorem dX9_nearest_71 : decode cX9_nearest 71 = .ok (.iadd, 1) := by decide +kernel
theorem dX9_nearest_72 : decode cX9_nearest 72 = .ok (.invokevirtual 104, 3) := by decide +kernel
theorem dX9_nearest_75 : decode cX9_nearest 75 = .ok (.aload_n 0, 1) := by decide +kernel
theorem dX9_nearest_76 : decode cX9_nearest 76 = .ok (.getfield 7, 3) := by decide +kernel
theorem dX9_nearest_79 : decode cX9_nearest 79 = .ok (.aload_n 0, 1) := by decide +kernel
theorem dX9_nearest_80 : decode cX9_nearest 80 = .ok (.iload 5, 2) := by decide +kernel
theorem dX9_nearest_82 : decode cX9_nearest 82 = .ok (.iload 7, 2) := by decide +kernel
theorem dX9_nearest_84 : decode cX9_nearest 84 = .ok (.invokevirtual 185, 3) := by decide +kernel
theorem dX9_nearest_87 : decode cX9_nearest 87 = .ok (.iaload, 1) := by decide +kernel
theorem dX9_nearest_88 : decode cX9_nearest 88 = .ok (.ixor, 1) := by decide +kernel
theorem dX9_nearest_89 : decode cX9_nearest 89 = .ok (.invokestatic 108, 3) := by decide +kernel
theorem dX9_nearest_92 : decode cX9_nearest 92 = .ok (.iadd, 1) := by decide +kernel
theorem dX9_nearest_93 : decode cX9_nearest 93 = .ok (.istore 6, 2) := by decide +kernel
theorem dX9_nearest_95 : decode cX9_nearest 95 = .ok (.iinc 7 1, 3) := by decide +kernel
theorem dX9_nearest_98 : decode cX9_nearest 98 = .ok (.goto (-54), 3) := by decide +kernel
theorem dX9_nearest_101 : decode cX9_nearest 101 = .ok (.aload_n 0, 1) := by decide +kernel
theorem dX9_nearest_102 : decode cX9_nearest 102 = .ok (.iload 5, 2) := by decide +kernel
theorem dX9_nearest_104 : decode cX9_nearest 104 = .ok (.iload_n 1, 1) := by decide +kernel
theorem dX9_nearest_105 : decode cX9_nearest 105 = .ok (.invokevirtual 182, 3) := by decide +kernel
theorem dX9_nearest_108 : decode cX9_nearest 108 = .ok (.ifCond .eq 21, 3) := by decide +kernel
theorem dX9_nearest_111 : decode cX9_nearest 111 = .ok (.iload_n 3, 1) := by decide +kernel
theorem dX9_nearest_112 : decode cX9_nearest 112 = .ok (.ifCond .lt 10, 3) := by decide +kernel
theorem dX9_nearest_115 : decode cX9_nearest 115 = .ok (.iload 6, 2) := by decide +kernel
theorem dX9_nearest_117 : decode cX9_nearest 117 = .ok (.iload 4, 2) := by decide +kernel
theorem dX9_nearest_119 : decode cX9_nearest 119 = .ok (.if_icmp .ge 10, 3) := by decide +kernel
theorem dX9_nearest_122 : decode cX9_nearest 122 = .ok (.iload 5, 2) := by decide +kernel
theorem dX9_nearest_124 : decode cX9_nearest 124 = .ok (.istore_n 3, 1) := by decide +kernel
theorem dX9_nearest_125 : decode cX9_nearest 125 = .ok (.iload 6, 2) := by decide +kernel
theorem dX9_nearest_127 : decode cX9_nearest 127 = .ok (.istore 4, 2) := by decide +kernel
theorem dX9_nearest_129 : decode cX9_nearest 129 = .ok (.iinc 5 1, 3) := by decide +kernel
theorem dX9_nearest_132 : decode cX9_nearest 132 = .ok (.goto (-103), 3) := by decide +kernel
theorem dX9_nearest_135 : decode cX9_nearest 135 = .ok (.iload_n 3, 1) := by decide +kernel
theorem dX9_nearest_136 : decode cX9_nearest 136 = .ok (.ifCond .ge 8, 3) := by decide +kernel
theorem dX9_nearest_139 : decode cX9_nearest 139 = .ok (.bipush (-4), 2) := by decide +kernel
theorem dX9_nearest_141 : decode cX9_nearest 141 = .ok (.goto 13, 3) := by decide +kernel
theorem dX9_nearest_144 : decode cX9_nearest 144 = .ok (.iload_n 2, 1) := by decide +kernel
theorem dX9_nearest_145 : decode cX9_nearest 145 = .ok (.ifCond .ne 7, 3) := by decide +kernel
theorem dX9_nearest_148 : decode cX9_nearest 148 = .ok (.iload_n 3, 1) := by decide +kernel
theorem dX9_nearest_149 : decode cX9_nearest 149 = .ok (.goto 5, 3) := by decide +kernel
theorem dX9_nearest_152 : decode cX9_nearest 152 = .ok (.iload 4, 2) := by decide +kernel
theorem dX9_nearest_154 : decode cX9_nearest 154 = .ok (.ireturn, 1) := by decide +kernel
theorem dX9_write_0 : decode cX9_write 0 = .ok (.aload_n 0, 1) := by decide +kernel
theorem dX9_write_1 : decode cX9_write 1 = .ok (.iload_n 1, 1) := by decide +kernel
theorem dX9_write_2 : decode cX9_write 2 = .ok (.invokevirtual 174, 3) := by decide +kernel
theorem dX9_write_5 : decode cX9_write 5 = .ok (.ifCond .eq 11, 3) := by decide +kernel
theorem dX9_write_8 : decode cX9_write 8 = .ok (.aload_n 0, 1) := by decide +kernel
theorem dX9_write_9 : decode cX9_write 9 = .ok (.iload_n 2, 1) := by decide +kernel
theorem dX9_write_10 : decode cX9_write 10 = .ok (.invokevirtual 94, 3) := by decide +kernel
theorem dX9_write_13 : decode cX9_write 13 = .ok (.ifCond .ne 5, 3) := by decide +kernel
theorem dX9_write_16 : decode cX9_write 16 = .ok (.iconst (-1), 1) := by decide +kernel
theorem dX9_write_17 : decode cX9_write 17 = .ok (.ireturn, 1) := by decide +kernel
theorem dX9_write_18 : decode cX9_write 18 = .ok (.aload_n 0, 1) := by decide +kernel
theorem dX9_write_19 : decode cX9_write 19 = .ok (.iload_n 1, 1) := by decide +kernel
theorem dX9_write_20 : decode cX9_write 20 = .ok (.iload_n 2, 1) := by decide +kernel
theorem dX9_write_21 : decode cX9_write 21 = .ok (.invokevirtual 191, 3) := by decide +kernel
theorem dX9_write_24 : decode cX9_write 24 = .ok (.ifCond .ne 6, 3) := by decide +kernel
theorem dX9_write_27 : decode cX9_write 27 = .ok (.bipush (-2), 2) := by decide +kernel
theorem dX9_write_29 : decode cX9_write 29 = .ok (.ireturn, 1) := by decide +kernel
theorem dX9_write_30 : decode cX9_write 30 = .ok (.iconst 0, 1) := by decide +kernel
theorem dX9_write_31 : decode cX9_write 31 = .ok (.istore_n 3, 1) := by decide +kernel
theorem dX9_write_32 : decode cX9_write 32 = .ok (.iconst 0, 1) := by decide +kernel
theorem dX9_write_33 : decode cX9_write 33 = .ok (.istore 4, 2) := by decide +kernel
theorem dX9_write_35 : decode cX9_write 35 = .ok (.iload 4, 2) := by decide +kernel
theorem dX9_write_37 : decode cX9_write 37 = .ok (.aload_n 0, 1) := by decide +kernel
theorem dX9_write_38 : decode cX9_write 38 = .ok (.iload_n 1, 1) := by decide +kernel
theorem dX9_write_39 : decode cX9_write 39 = .ok (.invokevirtual 179, 3) := by decide +kernel
theorem dX9_write_42 : decode cX9_write 42 = .ok (.if_icmp .ge 32, 3) := by decide +kernel
theorem dX9_write_45 : decode cX9_write 45 = .ok (.iload_n 3, 1) := by decide +kernel
theorem dX9_write_46 : decode cX9_write 46 = .ok (.aload_n 0, 1) := by decide +kernel
theorem dX9_write_47 : decode cX9_write 47 = .ok (.iload_n 2, 1) := by decide +kernel
theorem dX9_write_48 : decode cX9_write 48 = .ok (.iload 4, 2) := by decide +kernel
theorem dX9_write_50 : decode cX9_write 50 = .ok (.iadd, 1) := by decide +kernel
theorem dX9_write_51 : decode cX9_write 51 = .ok (.aload_n 0, 1) := by decide +kernel
theorem dX9_write_52 : decode cX9_write 52 = .ok (.getfield 7, 3) := by decide +kernel
theorem dX9_write_55 : decode cX9_write 55 = .ok (.aload_n 0, 1) := by decide +kernel
theorem dX9_write_56 : decode cX9_write 56 = .ok (.iload_n 1, 1) := by decide +kernel
theorem dX9_write_57 : decode cX9_write 57 = .ok (.iload 4, 2) := by decide +kernel
theorem dX9_write_59 : decode cX9_write 59 = .ok (.invokevirtual 185, 3) := by decide +kernel
theorem dX9_write_62 : decode cX9_write 62 = .ok (.iaload, 1) := by decide +kernel
theorem dX9_write_63 : decode cX9_write 63 = .ok (.invokevirtual 124, 3) := by decide +kernel
theorem dX9_write_66 : decode cX9_write 66 = .ok (.iadd, 1) := by decide +kernel
theorem dX9_write_67 : decode cX9_write 67 = .ok (.istore_n 3, 1) := by decide +kernel
theorem dX9_write_68 : decode cX9_write 68 = .ok (.iinc 4 1, 3) := by decide +kernel
theorem dX9_write_71 : decode cX9_write 71 = .ok (.goto (-36), 3) := by decide +kernel
theorem dX9_write_74 : decode cX9_write 74 = .ok (.iload_n 3, 1) := by decide +kernel
theorem dX9_write_75 : decode cX9_write 75 = .ok (.ireturn, 1) := by decide +kernel
theorem dX9_share_0 : decode cX9_share 0 = .ok (.aload_n 0, 1) := by decide +kernel
theorem dX9_share_1 : decode cX9_share 1 = .ok (.iload_n 1, 1) := by decide +kernel
theorem dX9_share_2 : decode cX9_share 2 = .ok (.invokevirtual 174, 3) := by decide +kernel
theorem dX9_share_5 : decode cX9_share 5 = .ok (.ifCond .eq 23, 3) := by decide +kernel
theorem dX9_share_8 : decode cX9_share 8 = .ok (.aload_n 0, 1) := by decide +kernel
theorem dX9_share_9 : decode cX9_share 9 = .ok (.iload_n 2, 1) := by decide +kernel
theorem dX9_share_10 : decode cX9_share 10 = .ok (.invokevirtual 94, 3) := by decide +kernel
theorem dX9_share_13 : decode cX9_share 13 = .ok (.ifCond .eq 15, 3) := by decide +kernel
theorem dX9_share_16 : decode cX9_share 16 = .ok (.iload_n 3, 1) := by decide +kernel
theorem dX9_share_17 : decode cX9_share 17 = .ok (.i2l, 1) := by decide +kernel
theorem dX9_share_18 : decode cX9_share 18 = .ok (.lconst 0, 1) := by decide +kernel
theorem dX9_share_19 : decode cX9_share 19 = .ok (.ldc2_w 86, 3) := by decide +kernel
theorem dX9_share_22 : decode cX9_share 22 = .ok (.invokestatic 75, 3) := by decide +kernel
theorem dX9_share_25 : decode cX9_share 25 = .ok (.ifCond .ne 5, 3) := by decide +kernel
theorem dX9_share_28 : decode cX9_share 28 = .ok (.iconst (-1), 1) := by decide +kernel
theorem dX9_share_29 : decode cX9_share 29 = .ok (.ireturn, 1) := by decide +kernel
theorem dX9_share_30 : decode cX9_share 30 = .ok (.aload_n 0, 1) := by decide +kernel
theorem dX9_share_31 : decode cX9_share 31 = .ok (.iload_n 1, 1) := by decide +kernel
theorem dX9_share_32 : decode cX9_share 32 = .ok (.iload_n 2, 1) := by decide +kernel
theorem dX9_share_33 : decode cX9_share 33 = .ok (.invokevirtual 182, 3) := by decide +kernel
theorem dX9_share_36 : decode cX9_share 36 = .ok (.ifCond .ne 6, 3) := by decide +kernel
theorem dX9_share_39 : decode cX9_share 39 = .ok (.bipush (-2), 2) := by decide +kernel
theorem dX9_share_41 : decode cX9_share 41 = .ok (.ireturn, 1) := by decide +kernel
theorem dX9_share_42 : decode cX9_share 42 = .ok (.aload_n 0, 1) := by decide +kernel
theorem dX9_share_43 : decode cX9_share 43 = .ok (.getfield 28, 3) := by decide +kernel
theorem dX9_share_46 : decode cX9_share 46 = .ok (.bipush 8, 2) := by decide +kernel
theorem dX9_share_48 : decode cX9_share 48 = .ok (.iload_n 1, 1) := by decide +kernel
theorem dX9_share_49 : decode cX9_share 49 = .ok (.imul, 1) := by decide +kernel
theorem dX9_share_50 : decode cX9_share 50 = .ok (.iconst 1, 1) := by decide +kernel
theorem dX9_share_51 : decode cX9_share 51 = .ok (.iadd, 1) := by decide +kernel
theorem dX9_share_52 : decode cX9_share 52 = .ok (.iaload, 1) := by decide +kernel
theorem dX9_share_53 : decode cX9_share 53 = .ok (.aload_n 0, 1) := by decide +kernel
theorem dX9_share_54 : decode cX9_share 54 = .ok (.iload_n 1, 1) := by decide +kernel
theorem dX9_share_55 : decode cX9_share 55 = .ok (.iload_n 2, 1) := by decide +kernel
theorem dX9_share_56 : decode cX9_share 56 = .ok (.invokevirtual 197, 3) := by decide +kernel
theorem dX9_share_59 : decode cX9_share 59 = .ok (.isub, 1) := by decide +kernel
theorem dX9_share_60 : decode cX9_share 60 = .ok (.istore 4, 2) := by decide +kernel
theorem dX9_share_62 : decode cX9_share 62 = .ok (.iload 4, 2) := by decide +kernel
theorem dX9_share_64 : decode cX9_share 64 = .ok (.ifCond .ge 6, 3) := by decide +kernel
theorem dX9_share_67 : decode cX9_share 67 = .ok (.bipush (-2), 2) := by decide +kernel
theorem dX9_share_69 : decode cX9_share 69 = .ok (.ireturn, 1) := by decide +kernel
theorem dX9_share_70 : decode cX9_share 70 = .ok (.aload_n 0, 1) := by decide +kernel
theorem dX9_share_71 : decode cX9_share 71 = .ok (.iload_n 1, 1) := by decide +kernel
theorem dX9_share_72 : decode cX9_share 72 = .ok (.invokevirtual 179, 3) := by decide +kernel
theorem dX9_share_75 : decode cX9_share 75 = .ok (.istore 5, 2) := by decide +kernel
theorem dX9_share_77 : decode cX9_share 77 = .ok (.iconst 0, 1) := by decide +kernel
theorem dX9_share_78 : decode cX9_share 78 = .ok (.istore 6, 2) := by decide +kernel
theorem dX9_share_80 : decode cX9_share 80 = .ok (.iconst 0, 1) := by decide +kernel
theorem dX9_share_81 : decode cX9_share 81 = .ok (.istore 7, 2) := by decide +kernel
theorem dX9_share_83 : decode cX9_share 83 = .ok (.iload 7, 2) := by decide +kernel
theorem dX9_share_85 : decode cX9_share 85 = .ok (.iload 5, 2) := by decide +kernel
theorem dX9_share_87 : decode cX9_share 87 = .ok (.if_icmp .ge 72, 3) := by decide +kernel
theorem dX9_share_90 : decode cX9_share 90 = .ok (.aload_n 0, 1) := by decide +kernel
theorem dX9_share_91 : decode cX9_share 91 = .ok (.iload_n 2, 1) := by decide +kernel
theorem dX9_share_92 : decode cX9_share 92 = .ok (.iload 7, 2) := by decide +kernel
theorem dX9_share_94 : decode cX9_share 94 = .ok (.iadd, 1) := by decide +kernel
theorem dX9_share_95 : decode cX9_share 95 = .ok (.aload_n 0, 1) := by decide +kernel
theorem dX9_share_96 : decode cX9_share 96 = .ok (.iload_n 1, 1) := by decide +kernel
theorem dX9_share_97 : decode cX9_share 97 = .ok (.iload 7, 2) := by decide +kernel
theorem dX9_share_99 : decode cX9_share 99 = .ok (.invokevirtual 185, 3) := by decide +kernel
theorem dX9_share_102 : decode cX9_share 102 = .ok (.invokevirtual 194, 3) := by decide +kernel
theorem dX9_share_105 : decode cX9_share 105 = .ok (.iload 4, 2) := by decide +kernel
theorem dX9_share_107 : decode cX9_share 107 = .ok (.iload 5, 2) := by decide +kernel
theorem dX9_share_109 : decode cX9_share 109 = .ok (.idiv, 1) := by decide +kernel
theorem dX9_share_110 : decode cX9_share 110 = .ok (.iadd, 1) := by decide +kernel
theorem dX9_share_111 : decode cX9_share 111 = .ok (.iload 7, 2) := by decide +kernel
theorem dX9_share_113 : decode cX9_share 113 = .ok (.iload 4, 2) := by decide +kernel
theorem dX9_share_115 : decode cX9_share 115 = .ok (.iload 5, 2) := by decide +kernel
theorem dX9_share_117 : decode cX9_share 117 = .ok (.irem, 1) := by decide +kernel
theorem dX9_share_118 : decode cX9_share 118 = .ok (.if_icmp .ge 7, 3) := by decide +kernel
theorem dX9_share_121 : decode cX9_share 121 = .ok (.iconst 1, 1) := by decide +kernel
theorem dX9_share_122 : decode cX9_share 122 = .ok (.goto 4, 3) := by decide +kernel
theorem dX9_share_125 : decode cX9_share 125 = .ok (.iconst 0, 1) := by decide +kernel
theorem dX9_share_126 : decode cX9_share 126 = .ok (.iadd, 1) := by decide +kernel
theorem dX9_share_127 : decode cX9_share 127 = .ok (.istore 8, 2) := by decide +kernel
theorem dX9_share_129 : decode cX9_share 129 = .ok (.iload 6, 2) := by decide +kernel
theorem dX9_share_131 : decode cX9_share 131 = .ok (.aload_n 0, 1) := by decide +kernel
theorem dX9_share_132 : decode cX9_share 132 = .ok (.getfield 13, 3) := by decide +kernel
theorem dX9_share_135 : decode cX9_share 135 = .ok (.iload_n 2, 1) := by decide +kernel
theorem dX9_share_136 : decode cX9_share 136 = .ok (.iload 7, 2) := by decide +kernel
theorem dX9_share_138 : decode cX9_share 138 = .ok (.iadd, 1) := by decide +kernel
theorem dX9_share_139 : decode cX9_share 139 = .ok (.iaload, 1) := by decide +kernel
theorem dX9_share_140 : decode cX9_share 140 = .ok (.iload_n 3, 1) := by decide +kernel
theorem dX9_share_141 : decode cX9_share 141 = .ok (.if_icmp .ne 8, 3) := by decide +kernel
theorem dX9_share_144 : decode cX9_share 144 = .ok (.iload 8, 2) := by decide +kernel
theorem dX9_share_146 : decode cX9_share 146 = .ok (.goto 4, 3) := by decide +kernel
theorem dX9_share_149 : decode cX9_share 149 = .ok (.iconst 0, 1) := by decide +kernel
theorem dX9_share_150 : decode cX9_share 150 = .ok (.iadd, 1) := by decide +kernel
theorem dX9_share_151 : decode cX9_share 151 = .ok (.istore 6, 2) := by decide +kernel
theorem dX9_share_153 : decode cX9_share 153 = .ok (.iinc 7 1, 3) := by decide +kernel
theorem dX9_share_156 : decode cX9_share 156 = .ok (.goto (-73), 3) := by decide +kernel
theorem dX9_share_159 : decode cX9_share 159 = .ok (.iload 6, 2) := by decide +kernel
theorem dX9_share_161 : decode cX9_share 161 = .ok (.ireturn, 1) := by decide +kernel
theorem dX9_power_0 : decode cX9_power 0 = .ok (.lconst 1, 1) := by decide +kernel
theorem dX9_power_1 : decode cX9_power 1 = .ok (.lstore_n 2, 1) := by decide +kernel
theorem dX9_power_2 : decode cX9_power 2 = .ok (.iconst 0, 1) := by decide +kernel
theorem dX9_power_3 : decode cX9_power 3 = .ok (.istore 4, 2) := by decide +kernel
theorem dX9_power_5 : decode cX9_power 5 = .ok (.iload 4, 2) := by decide +kernel
theorem dX9_power_7 : decode cX9_power 7 = .ok (.iload_n 1, 1) := by decide +kernel
theorem dX9_power_8 : decode cX9_power 8 = .ok (.if_icmp .ge 14, 3) := by decide +kernel
theorem dX9_power_11 : decode cX9_power 11 = .ok (.lload_n 2, 1) := by decide +kernel
theorem dX9_power_12 : decode cX9_power 12 = .ok (.iload_n 0, 1) := by decide +kernel
theorem dX9_power_13 : decode cX9_power 13 = .ok (.i2l, 1) := by decide +kernel
theorem dX9_power_14 : decode cX9_power 14 = .ok (.lmul, 1) := by decide +kernel
theorem dX9_power_15 : decode cX9_power 15 = .ok (.lstore_n 2, 1) := by decide +kernel
theorem dX9_power_16 : decode cX9_power 16 = .ok (.iinc 4 1, 3) := by decide +kernel
theorem dX9_power_19 : decode cX9_power 19 = .ok (.goto (-14), 3) := by decide +kernel
theorem dX9_power_22 : decode cX9_power 22 = .ok (.lload_n 2, 1) := by decide +kernel
theorem dX9_power_23 : decode cX9_power 23 = .ok (.lreturn, 1) := by decide +kernel
theorem dX9_findOdds_0 : decode cX9_findOdds 0 = .ok (.iconst 0, 1) := by decide +kernel
theorem dX9_findOdds_1 : decode cX9_findOdds 1 = .ok (.istore_n 3, 1) := by decide +kernel
theorem dX9_findOdds_2 : decode cX9_findOdds 2 = .ok (.iload_n 3, 1) := by decide +kernel
theorem dX9_findOdds_3 : decode cX9_findOdds 3 = .ok (.bipush 26, 2) := by decide +kernel
theorem dX9_findOdds_5 : decode cX9_findOdds 5 = .ok (.if_icmp .ge 16, 3) := by decide +kernel
theorem dX9_findOdds_8 : decode cX9_findOdds 8 = .ok (.aload_n 0, 1) := by decide +kernel
theorem dX9_findOdds_9 : decode cX9_findOdds 9 = .ok (.getfield 49, 3) := by decide +kernel
theorem dX9_findOdds_12 : decode cX9_findOdds 12 = .ok (.iload_n 3, 1) := by decide +kernel
theorem dX9_findOdds_13 : decode cX9_findOdds 13 = .ok (.lconst 0, 1) := by decide +kernel
theorem dX9_findOdds_14 : decode cX9_findOdds 14 = .ok (.lastore, 1) := by decide +kernel
theorem dX9_findOdds_15 : decode cX9_findOdds 15 = .ok (.iinc 3 1, 3) := by decide +kernel
theorem dX9_findOdds_18 : decode cX9_findOdds 18 = .ok (.goto (-16), 3) := by decide +kernel
theorem dX9_findOdds_21 : decode cX9_findOdds 21 = .ok (.iconst 0, 1) := by decide +kernel
theorem dX9_findOdds_22 : decode cX9_findOdds 22 = .ok (.istore_n 3, 1) := by decide +kernel
theorem dX9_findOdds_23 : decode cX9_findOdds 23 = .ok (.iload_n 3, 1) := by decide +kernel
theorem dX9_findOdds_24 : decode cX9_findOdds 24 = .ok (.ldc 211, 2) := by decide +kernel
theorem dX9_findOdds_26 : decode cX9_findOdds 26 = .ok (.if_icmp .ge 79, 3) := by decide +kernel
theorem dX9_findOdds_29 : decode cX9_findOdds 29 = .ok (.iload_n 3, 1) := by decide +kernel
theorem dX9_findOdds_30 : decode cX9_findOdds 30 = .ok (.invokestatic 108, 3) := by decide +kernel
theorem dX9_findOdds_33 : decode cX9_findOdds 33 = .ok (.istore 4, 2) := by decide +kernel
theorem dX9_findOdds_35 : decode cX9_findOdds 35 = .ok (.iload_n 2, 1) := by decide +kernel
theorem dX9_findOdds_36 : decode cX9_findOdds 36 = .ok (.iload 4, 2) := by decide +kernel
theorem dX9_findOdds_38 : decode cX9_findOdds 38 = .ok (.invokestatic 212, 3) := by decide +kernel
theorem dX9_findOdds_41 : decode cX9_findOdds 41 = .ok (.bipush 16, 2) := by decide +kernel
theorem dX9_findOdds_43 : decode cX9_findOdds 43 = .ok (.iload_n 2, 1) := by decide +kernel
theorem dX9_findOdds_44 : decode cX9_findOdds 44 = .ok (.isub, 1) := by decide +kernel
theorem dX9_findOdds_45 : decode cX9_findOdds 45 = .ok (.bipush 15, 2) := by decide +kernel
theorem dX9_findOdds_47 : decode cX9_findOdds 47 = .ok (.iload 4, 2) := by decide +kernel
theorem dX9_findOdds_49 : decode cX9_findOdds 49 = .ok (.isub, 1) := by decide +kernel
theorem dX9_findOdds_50 : decode cX9_findOdds 50 = .ok (.invokestatic 212, 3) := by decide +kernel
theorem dX9_findOdds_53 : decode cX9_findOdds 53 = .ok (.lmul, 1) := by decide +kernel
theorem dX9_findOdds_54 : decode cX9_findOdds 54 = .ok (.lstore 5, 2) := by decide +kernel
theorem dX9_findOdds_56 : decode cX9_findOdds 56 = .ok (.lload 5, 2) := by decide +kernel
theorem dX9_findOdds_58 : decode cX9_findOdds 58 = .ok (.lconst 0, 1) := by decide +kernel
theorem dX9_findOdds_59 : decode cX9_findOdds 59 = .ok (.lcmp, 1) := by decide +kernel
theorem dX9_findOdds_60 : decode cX9_findOdds 60 = .ok (.ifCond .ne 8, 3) := by decide +kernel
theorem dX9_findOdds_63 : decode cX9_findOdds 63 = .ok (.bipush (-4), 2) := by decide +kernel
theorem dX9_findOdds_65 : decode cX9_findOdds 65 = .ok (.goto 15, 3) := by decide +kernel
theorem dX9_findOdds_68 : decode cX9_findOdds 68 = .ok (.aload_n 0, 1) := by decide +kernel
theorem dX9_findOdds_69 : decode cX9_findOdds 69 = .ok (.aload_n 0, 1) := by decide +kernel
theorem dX9_findOdds_70 : decode cX9_findOdds 70 = .ok (.getfield 7, 3) := by decide +kernel
theorem dX9_findOdds_73 : decode cX9_findOdds 73 = .ok (.iload_n 1, 1) := by decide +kernel
theorem dX9_findOdds_74 : decode cX9_findOdds 74 = .ok (.iaload, 1) := by decide +kernel
theorem dX9_findOdds_75 : decode cX9_findOdds 75 = .ok (.iload_n 3, 1) := by decide +kernel
theorem dX9_findOdds_76 : decode cX9_findOdds 76 = .ok (.ixor, 1) := by decide +kernel
theorem dX9_findOdds_77 : decode cX9_findOdds 77 = .ok (.invokevirtual 114, 3) := by decide +kernel
theorem dX9_findOdds_80 : decode cX9_findOdds 80 = .ok (.istore 7, 2) := by decide +kernel
theorem dX9_findOdds_82 : decode cX9_findOdds 82 = .ok (.iload 7, 2) := by decide +kernel
theorem dX9_findOdds_84 : decode cX9_findOdds 84 = .ok (.ifCond .lt 15, 3) := by decide +kernel
theorem dX9_findOdds_87 : decode cX9_findOdds 87 = .ok (.aload_n 0, 1) := by decide +kernel
theorem dX9_findOdds_88 : decode cX9_findOdds 88 = .ok (.getfield 49, 3) := by decide +kernel
theorem dX9_findOdds_91 : decode cX9_findOdds 91 = .ok (.iload 7, 2) := by decide +kernel
theorem dX9_findOdds_93 : decode cX9_findOdds 93 = .ok (.dup2, 1) := by decide +kernel
theorem dX9_findOdds_94 : decode cX9_findOdds 94 = .ok (.laload, 1) := by decide +kernel
theorem dX9_findOdds_95 : decode cX9_findOdds 95 = .ok (.lload 5, 2) := by decide +kernel
theorem dX9_findOdds_97 : decode cX9_findOdds 97 = .ok (.ladd, 1) := by decide +kernel
theorem dX9_findOdds_98 : decode cX9_findOdds 98 = .ok (.lastore, 1) := by decide +kernel
theorem dX9_findOdds_99 : decode cX9_findOdds 99 = .ok (.iinc 3 1, 3) := by decide +kernel
theorem dX9_findOdds_102 : decode cX9_findOdds 102 = .ok (.goto (-79), 3) := by decide +kernel
theorem dX9_findOdds_105 : decode cX9_findOdds 105 = .ok (.return_, 1) := by decide +kernel
theorem dX9_sure_0 : decode cX9_sure 0 = .ok (.iload_n 1, 1) := by decide +kernel
theorem dX9_sure_1 : decode cX9_sure 1 = .ok (.invokestatic 101, 3) := by decide +kernel
theorem dX9_sure_4 : decode cX9_sure 4 = .ok (.ifCond .eq 15, 3) := by decide +kernel
theorem dX9_sure_7 : decode cX9_sure 7 = .ok (.iload_n 2, 1) := by decide +kernel
theorem dX9_sure_8 : decode cX9_sure 8 = .ok (.i2l, 1) := by decide +kernel
theorem dX9_sure_9 : decode cX9_sure 9 = .ok (.lconst 0, 1) := by decide +kernel
theorem dX9_sure_10 : decode cX9_sure 10 = .ok (.ldc2_w 133, 3) := by decide +kernel
theorem dX9_sure_13 : decode cX9_sure 13 = .ok (.invokestatic 75, 3) := by decide +kernel
theorem dX9_sure_16 : decode cX9_sure 16 = .ok (.ifCond .ne 5, 3) := by decide +kernel
theorem dX9_sure_19 : decode cX9_sure 19 = .ok (.iconst (-1), 1) := by decide +kernel
theorem dX9_sure_20 : decode cX9_sure 20 = .ok (.ireturn, 1) := by decide +kernel
theorem dX9_sure_21 : decode cX9_sure 21 = .ok (.aload_n 0, 1) := by decide +kernel
theorem dX9_sure_22 : decode cX9_sure 22 = .ok (.iload_n 1, 1) := by decide +kernel
theorem dX9_sure_23 : decode cX9_sure 23 = .ok (.iload_n 2, 1) := by decide +kernel
theorem dX9_sure_24 : decode cX9_sure 24 = .ok (.invokevirtual 216, 3) := by decide +kernel
theorem dX9_sure_27 : decode cX9_sure 27 = .ok (.aload_n 0, 1) := by decide +kernel
theorem dX9_sure_28 : decode cX9_sure 28 = .ok (.getfield 49, 3) := by decide +kernel
theorem dX9_sure_31 : decode cX9_sure 31 = .ok (.iload_n 1, 1) := by decide +kernel
theorem dX9_sure_32 : decode cX9_sure 32 = .ok (.laload, 1) := by decide +kernel
theorem dX9_sure_33 : decode cX9_sure 33 = .ok (.bipush 30, 2) := by decide +kernel
theorem dX9_sure_35 : decode cX9_sure 35 = .ok (.lshr, 1) := by decide +kernel
theorem dX9_sure_36 : decode cX9_sure 36 = .ok (.lstore_n 3, 1) := by decide +kernel
theorem dX9_sure_37 : decode cX9_sure 37 = .ok (.aload_n 0, 1) := by decide +kernel
theorem dX9_sure_38 : decode cX9_sure 38 = .ok (.getfield 49, 3) := by decide +kernel
theorem dX9_sure_41 : decode cX9_sure 41 = .ok (.iload_n 1, 1) := by decide +kernel
theorem dX9_sure_42 : decode cX9_sure 42 = .ok (.laload, 1) := by decide +kernel
theorem dX9_sure_43 : decode cX9_sure 43 = .ok (.ldc2_w 220, 3) := by decide +kernel
theorem dX9_sure_46 : decode cX9_sure 46 = .ok (.land, 1) := by decide +kernel
theorem dX9_sure_47 : decode cX9_sure 47 = .ok (.lstore 5, 2) := by decide +kernel
theorem dX9_sure_49 : decode cX9_sure 49 = .ok (.ldc2_w 222, 3) := by decide +kernel
theorem dX9_sure_52 : decode cX9_sure 52 = .ok (.lload_n 3, 1) := by decide +kernel
theorem dX9_sure_53 : decode cX9_sure 53 = .ok (.lmul, 1) := by decide +kernel
theorem dX9_sure_54 : decode cX9_sure 54 = .ok (.ldc2_w 222, 3) := by decide +kernel
theorem dX9_sure_57 : decode cX9_sure 57 = .ok (.lload 5, 2) := by decide +kernel
theorem dX9_sure_59 : decode cX9_sure 59 = .ok (.lmul, 1) := by decide +kernel
theorem dX9_sure_60 : decode cX9_sure 60 = .ok (.bipush 30, 2) := by decide +kernel
theorem dX9_sure_62 : decode cX9_sure 62 = .ok (.lshr, 1) := by decide +kernel
theorem dX9_sure_63 : decode cX9_sure 63 = .ok (.ladd, 1) := by decide +kernel
theorem dX9_sure_64 : decode cX9_sure 64 = .ok (.bipush 30, 2) := by decide +kernel
theorem dX9_sure_66 : decode cX9_sure 66 = .ok (.lshr, 1) := by decide +kernel
theorem dX9_sure_67 : decode cX9_sure 67 = .ok (.l2i, 1) := by decide +kernel
theorem dX9_sure_68 : decode cX9_sure 68 = .ok (.ireturn, 1) := by decide +kernel
theorem dX9_taken_0 : decode cX9_taken 0 = .ok (.iload_n 1, 1) := by decide +kernel
theorem dX9_taken_1 : decode cX9_taken 1 = .ok (.invokestatic 101, 3) := by decide +kernel
theorem dX9_taken_4 : decode cX9_taken 4 = .ok (.ifCond .eq 15, 3) := by decide +kernel
theorem dX9_taken_7 : decode cX9_taken 7 = .ok (.iload_n 2, 1) := by decide +kernel
theorem dX9_taken_8 : decode cX9_taken 8 = .ok (.i2l, 1) := by decide +kernel
theorem dX9_taken_9 : decode cX9_taken 9 = .ok (.lconst 0, 1) := by decide +kernel
theorem dX9_taken_10 : decode cX9_taken 10 = .ok (.ldc2_w 133, 3) := by decide +kernel
theorem dX9_taken_13 : decode cX9_taken 13 = .ok (.invokestatic 75, 3) := by decide +kernel
theorem dX9_taken_16 : decode cX9_taken 16 = .ok (.ifCond .ne 5, 3) := by decide +kernel
theorem dX9_taken_19 : decode cX9_taken 19 = .ok (.iconst (-1), 1) := by decide +kernel
theorem dX9_taken_20 : decode cX9_taken 20 = .ok (.ireturn, 1) := by decide +kernel
theorem dX9_taken_21 : decode cX9_taken 21 = .ok (.aload_n 0, 1) := by decide +kernel
theorem dX9_taken_22 : decode cX9_taken 22 = .ok (.iload_n 1, 1) := by decide +kernel
theorem dX9_taken_23 : decode cX9_taken 23 = .ok (.iload_n 2, 1) := by decide +kernel
theorem dX9_taken_24 : decode cX9_taken 24 = .ok (.invokevirtual 216, 3) := by decide +kernel
theorem dX9_taken_27 : decode cX9_taken 27 = .ok (.bipush (-4), 2) := by decide +kernel
theorem dX9_taken_29 : decode cX9_taken 29 = .ok (.istore_n 3, 1) := by decide +kernel
theorem dX9_taken_30 : decode cX9_taken 30 = .ok (.lconst 0, 1) := by decide +kernel
theorem dX9_taken_31 : decode cX9_taken 31 = .ok (.lstore 4, 2) := by decide +kernel
theorem dX9_taken_33 : decode cX9_taken 33 = .ok (.iconst 0, 1) := by decide +kernel
theorem dX9_taken_34 : decode cX9_taken 34 = .ok (.istore 6, 2) := by decide +kernel
theorem dX9_taken_36 : decode cX9_taken 36 = .ok (.iload 6, 2) := by decide +kernel
theorem dX9_taken_38 : decode cX9_taken 38 = .ok (.bipush 26, 2) := by decide +kernel
theorem dX9_taken_40 : decode cX9_taken 40 = .ok (.if_icmp .ge 40, 3) := by decide +kernel
theorem dX9_taken_43 : decode cX9_taken 43 = .ok (.iload 6, 2) := by decide +kernel
theorem dX9_taken_45 : decode cX9_taken 45 = .ok (.iload_n 1, 1) := by decide +kernel
theorem dX9_taken_46 : decode cX9_taken 46 = .ok (.if_icmp .eq 28, 3) := by decide +kernel
theorem dX9_taken_49 : decode cX9_taken 49 = .ok (.aload_n 0, 1) := by decide +kernel
theorem dX9_taken_50 : decode cX9_taken 50 = .ok (.getfield 49, 3) := by decide +kernel
theorem dX9_taken_53 : decode cX9_taken 53 = .ok (.iload 6, 2) := by decide +kernel
theorem dX9_taken_55 : decode cX9_taken 55 = .ok (.laload, 1) := by decide +kernel
theorem dX9_taken_56 : decode cX9_taken 56 = .ok (.lload 4, 2) := by decide +kernel
theorem dX9_taken_58 : decode cX9_taken 58 = .ok (.lcmp, 1) := by decide +kernel
theorem dX9_taken_59 : decode cX9_taken 59 = .ok (.ifCond .le 15, 3) := by decide +kernel
theorem dX9_taken_62 : decode cX9_taken 62 = .ok (.iload 6, 2) := by decide +kernel
theorem dX9_taken_64 : decode cX9_taken 64 = .ok (.istore_n 3, 1) := by decide +kernel
theorem dX9_taken_65 : decode cX9_taken 65 = .ok (.aload_n 0, 1) := by decide +kernel
theorem dX9_taken_66 : decode cX9_taken 66 = .ok (.getfield 49, 3) := by decide +kernel
theorem dX9_taken_69 : decode cX9_taken 69 = .ok (.iload 6, 2) := by decide +kernel
theorem dX9_taken_71 : decode cX9_taken 71 = .ok (.laload, 1) := by decide +kernel
theorem dX9_taken_72 : decode cX9_taken 72 = .ok (.lstore 4, 2) := by decide +kernel
theorem dX9_taken_74 : decode cX9_taken 74 = .ok (.iinc 6 1, 3) := by decide +kernel
theorem dX9_taken_77 : decode cX9_taken 77 = .ok (.goto (-41), 3) := by decide +kernel
theorem dX9_taken_80 : decode cX9_taken 80 = .ok (.iload_n 3, 1) := by decide +kernel
theorem dX9_taken_81 : decode cX9_taken 81 = .ok (.ireturn, 1) := by decide +kernel
theorem dX9_fades_0 : decode cX9_fades 0 = .ok (.aload_n 0, 1) := by decide +kernel
theorem dX9_fades_1 : decode cX9_fades 1 = .ok (.iload_n 1, 1) := by decide +kernel
theorem dX9_fades_2 : decode cX9_fades 2 = .ok (.invokevirtual 174, 3) := by decide +kernel
theorem dX9_fades_5 : decode cX9_fades 5 = .ok (.ifCond .eq 11, 3) := by decide +kernel
theorem dX9_fades_8 : decode cX9_fades 8 = .ok (.aload_n 0, 1) := by decide +kernel
theorem dX9_fades_9 : decode cX9_fades 9 = .ok (.iload_n 2, 1) := by decide +kernel
theorem dX9_fades_10 : decode cX9_fades 10 = .ok (.invokevirtual 94, 3) := by decide +kernel
theorem dX9_fades_13 : decode cX9_fades 13 = .ok (.ifCond .ne 5, 3) := by decide +kernel
theorem dX9_fades_16 : decode cX9_fades 16 = .ok (.iconst (-1), 1) := by decide +kernel
theorem dX9_fades_17 : decode cX9_fades 17 = .ok (.ireturn, 1) := by decide +kernel
theorem dX9_fades_18 : decode cX9_fades 18 = .ok (.aload_n 0, 1) := by decide +kernel
theorem dX9_fades_19 : decode cX9_fades 19 = .ok (.iload_n 1, 1) := by decide +kernel
theorem dX9_fades_20 : decode cX9_fades 20 = .ok (.iload_n 2, 1) := by decide +kernel
theorem dX9_fades_21 : decode cX9_fades 21 = .ok (.invokevirtual 188, 3) := by decide +kernel
theorem dX9_fades_24 : decode cX9_fades 24 = .ok (.ifCond .ne 6, 3) := by decide +kernel
theorem dX9_fades_27 : decode cX9_fades 27 = .ok (.bipush (-2), 2) := by decide +kernel
theorem dX9_fades_29 : decode cX9_fades 29 = .ok (.ireturn, 1) := by decide +kernel
theorem dX9_fades_30 : decode cX9_fades 30 = .ok (.iconst 0, 1) := by decide +kernel
theorem dX9_fades_31 : decode cX9_fades 31 = .ok (.istore_n 3, 1) := by decide +kernel
theorem dX9_fades_32 : decode cX9_fades 32 = .ok (.iload_n 3, 1) := by decide +kernel
theorem dX9_fades_33 : decode cX9_fades 33 = .ok (.sipush 135, 3) := by decide +kernel
theorem dX9_fades_36 : decode cX9_fades 36 = .ok (.if_icmp .ge 21, 3) := by decide +kernel
theorem dX9_fades_39 : decode cX9_fades 39 = .ok (.aload_n 0, 1) := by decide +kernel
theorem dX9_fades_40 : decode cX9_fades 40 = .ok (.getfield 53, 3) := by decide +kernel
theorem dX9_fades_43 : decode cX9_fades 43 = .ok (.iload_n 3, 1) := by decide +kernel
theorem dX9_fades_44 : decode cX9_fades 44 = .ok (.aload_n 0, 1) := by decide +kernel
theorem dX9_fades_45 : decode cX9_fades 45 = .ok (.getfield 16, 3) := by decide +kernel
theorem dX9_fades_48 : decode cX9_fades 48 = .ok (.iload_n 3, 1) := by decide +kernel
theorem dX9_fades_49 : decode cX9_fades 49 = .ok (.iaload, 1) := by decide +kernel
theorem dX9_fades_50 : decode cX9_fades 50 = .ok (.iastore, 1) := by decide +kernel
theorem dX9_fades_51 : decode cX9_fades 51 = .ok (.iinc 3 1, 3) := by decide +kernel
theorem dX9_fades_54 : decode cX9_fades 54 = .ok (.goto (-22), 3) := by decide +kernel
theorem dX9_fades_57 : decode cX9_fades 57 = .ok (.bipush (-4), 2) := by decide +kernel
theorem dX9_fades_59 : decode cX9_fades 59 = .ok (.istore_n 3, 1) := by decide +kernel
theorem dX9_fades_60 : decode cX9_fades 60 = .ok (.iconst 1, 1) := by decide +kernel
theorem dX9_fades_61 : decode cX9_fades 61 = .ok (.istore 4, 2) := by decide +kernel
theorem dX9_fades_63 : decode cX9_fades 63 = .ok (.iload 4, 2) := by decide +kernel
theorem dX9_fades_65 : decode cX9_fades 65 = .ok (.bipush 30, 2) := by decide +kernel
theorem dX9_fades_67 : decode cX9_fades 67 = .ok (.if_icmp .gt 34, 3) := by decide +kernel
theorem dX9_fades_70 : decode cX9_fades 70 = .ok (.iload_n 3, 1) := by decide +kernel
theorem dX9_fades_71 : decode cX9_fades 71 = .ok (.ifCond .ge 30, 3) := by decide +kernel
theorem dX9_fades_74 : decode cX9_fades 74 = .ok (.aload_n 0, 1) := by decide +kernel
theorem dX9_fades_75 : decode cX9_fades 75 = .ok (.invokevirtual 130, 3) := by decide +kernel
theorem dX9_fades_78 : decode cX9_fades 78 = .ok (.aload_n 0, 1) := by decide +kernel
theorem dX9_fades_79 : decode cX9_fades 79 = .ok (.iload_n 1, 1) := by decide +kernel
theorem dX9_fades_80 : decode cX9_fades 80 = .ok (.iload_n 2, 1) := by decide +kernel
theorem dX9_fades_81 : decode cX9_fades 81 = .ok (.invokevirtual 188, 3) := by decide +kernel
theorem dX9_fades_84 : decode cX9_fades 84 = .ok (.ifCond .eq 8, 3) := by decide +kernel
theorem dX9_fades_87 : decode cX9_fades 87 = .ok (.bipush (-4), 2) := by decide +kernel
theorem dX9_fades_89 : decode cX9_fades 89 = .ok (.goto 5, 3) := by decide +kernel
theorem dX9_fades_92 : decode cX9_fades 92 = .ok (.iload 4, 2) := by decide +kernel
theorem dX9_fades_94 : decode cX9_fades 94 = .ok (.istore_n 3, 1) := by decide +kernel
theorem dX9_fades_95 : decode cX9_fades 95 = .ok (.iinc 4 1, 3) := by decide +kernel
theorem dX9_fades_98 : decode cX9_fades 98 = .ok (.goto (-35), 3) := by decide +kernel
theorem dX9_fades_101 : decode cX9_fades 101 = .ok (.iconst 0, 1) := by decide +kernel
theorem dX9_fades_102 : decode cX9_fades 102 = .ok (.istore 4, 2) := by decide +kernel
theorem dX9_fades_104 : decode cX9_fades 104 = .ok (.iload 4, 2) := by decide +kernel
theorem dX9_fades_106 : decode cX9_fades 106 = .ok (.sipush 135, 3) := by decide +kernel
theorem dX9_fades_109 : decode cX9_fades 109 = .ok (.if_icmp .ge 23, 3) := by decide +kernel
theorem dX9_fades_112 : decode cX9_fades 112 = .ok (.aload_n 0, 1) := by decide +kernel
theorem dX9_fades_113 : decode cX9_fades 113 = .ok (.getfield 16, 3) := by decide +kernel
theorem dX9_fades_116 : decode cX9_fades 116 = .ok (.iload 4, 2) := by decide +kernel
theorem dX9_fades_118 : decode cX9_fades 118 = .ok (.aload_n 0, 1) := by decide +kernel
theorem dX9_fades_119 : decode cX9_fades 119 = .ok (.getfield 53, 3) := by decide +kernel
theorem dX9_fades_122 : decode cX9_fades 122 = .ok (.iload 4, 2) := by decide +kernel
theorem dX9_fades_124 : decode cX9_fades 124 = .ok (.iaload, 1) := by decide +kernel
theorem dX9_fades_125 : decode cX9_fades 125 = .ok (.iastore, 1) := by decide +kernel
theorem dX9_fades_126 : decode cX9_fades 126 = .ok (.iinc 4 1, 3) := by decide +kernel
theorem dX9_fades_129 : decode cX9_fades 129 = .ok (.goto (-25), 3) := by decide +kernel
theorem dX9_fades_132 : decode cX9_fades 132 = .ok (.iload_n 3, 1) := by decide +kernel
theorem dX9_fades_133 : decode cX9_fades 133 = .ok (.ireturn, 1) := by decide +kernel
theorem dX9_areLike_0 : decode cX9_areLike 0 = .ok (.aload_n 0, 1) := by decide +kernel
theorem dX9_areLike_1 : decode cX9_areLike 1 = .ok (.iload_n 1, 1) := by decide +kernel
theorem dX9_areLike_2 : decode cX9_areLike 2 = .ok (.invokevirtual 179, 3) := by decide +kernel
theorem dX9_areLike_5 : decode cX9_areLike 5 = .ok (.aload_n 0, 1) := by decide +kernel
theorem dX9_areLike_6 : decode cX9_areLike 6 = .ok (.iload_n 2, 1) := by decide +kernel
theorem dX9_areLike_7 : decode cX9_areLike 7 = .ok (.invokevirtual 179, 3) := by decide +kernel
theorem dX9_areLike_10 : decode cX9_areLike 10 = .ok (.if_icmp .ne 7, 3) := by decide +kernel
theorem dX9_areLike_13 : decode cX9_areLike 13 = .ok (.iconst 1, 1) := by decide +kernel
theorem dX9_areLike_14 : decode cX9_areLike 14 = .ok (.goto 4, 3) := by decide +kernel
theorem dX9_areLike_17 : decode cX9_areLike 17 = .ok (.iconst 0, 1) := by decide +kernel
theorem dX9_areLike_18 : decode cX9_areLike 18 = .ok (.istore_n 3, 1) := by decide +kernel
theorem dX9_areLike_19 : decode cX9_areLike 19 = .ok (.iconst 0, 1) := by decide +kernel
theorem dX9_areLike_20 : decode cX9_areLike 20 = .ok (.istore 4, 2) := by decide +kernel
theorem dX9_areLike_22 : decode cX9_areLike 22 = .ok (.iload 4, 2) := by decide +kernel
theorem dX9_areLike_24 : decode cX9_areLike 24 = .ok (.aload_n 0, 1) := by decide +kernel
theorem dX9_areLike_25 : decode cX9_areLike 25 = .ok (.iload_n 1, 1) := by decide +kernel
theorem dX9_areLike_26 : decode cX9_areLike 26 = .ok (.invokevirtual 179, 3) := by decide +kernel
theorem dX9_areLike_29 : decode cX9_areLike 29 = .ok (.if_icmp .ge 36, 3) := by decide +kernel
theorem dX9_areLike_32 : decode cX9_areLike 32 = .ok (.iload_n 3, 1) := by decide +kernel
theorem dX9_areLike_33 : decode cX9_areLike 33 = .ok (.ifCond .eq 32, 3) := by decide +kernel
theorem dX9_areLike_36 : decode cX9_areLike 36 = .ok (.aload_n 0, 1) := by decide +kernel
theorem dX9_areLike_37 : decode cX9_areLike 37 = .ok (.iload_n 1, 1) := by decide +kernel
theorem dX9_areLike_38 : decode cX9_areLike 38 = .ok (.iload 4, 2) := by decide +kernel
theorem dX9_areLike_40 : decode cX9_areLike 40 = .ok (.invokevirtual 185, 3) := by decide +kernel
theorem dX9_areLike_43 : decode cX9_areLike 43 = .ok (.aload_n 0, 1) := by decide +kernel
theorem dX9_areLike_44 : decode cX9_areLike 44 = .ok (.iload_n 2, 1) := by decide +kernel
theorem dX9_areLike_45 : decode cX9_areLike 45 = .ok (.iload 4, 2) := by decide +kernel
theorem dX9_areLike_47 : decode cX9_areLike 47 = .ok (.invokevirtual 185, 3) := by decide +kernel
theorem dX9_areLike_50 : decode cX9_areLike 50 = .ok (.if_icmp .ne 7, 3) := by decide +kernel
theorem dX9_areLike_53 : decode cX9_areLike 53 = .ok (.iconst 1, 1) := by decide +kernel
theorem dX9_areLike_54 : decode cX9_areLike 54 = .ok (.goto 4, 3) := by decide +kernel
theorem dX9_areLike_57 : decode cX9_areLike 57 = .ok (.iconst 0, 1) := by decide +kernel
theorem dX9_areLike_58 : decode cX9_areLike 58 = .ok (.istore_n 3, 1) := by decide +kernel
theorem dX9_areLike_59 : decode cX9_areLike 59 = .ok (.iinc 4 1, 3) := by decide +kernel
theorem dX9_areLike_62 : decode cX9_areLike 62 = .ok (.goto (-40), 3) := by decide +kernel
theorem dX9_areLike_65 : decode cX9_areLike 65 = .ok (.iload_n 3, 1) := by decide +kernel
theorem dX9_areLike_66 : decode cX9_areLike 66 = .ok (.ireturn, 1) := by decide +kernel
theorem dX9_isIn_0 : decode cX9_isIn 0 = .ok (.iconst 0, 1) := by decide +kernel
theorem dX9_isIn_1 : decode cX9_isIn 1 = .ok (.istore 4, 2) := by decide +kernel
theorem dX9_isIn_3 : decode cX9_isIn 3 = .ok (.iconst 0, 1) := by decide +kernel
theorem dX9_isIn_4 : decode cX9_isIn 4 = .ok (.istore 5, 2) := by decide +kernel
theorem dX9_isIn_6 : decode cX9_isIn 6 = .ok (.iload 5, 2) := by decide +kernel
theorem dX9_isIn_8 : decode cX9_isIn 8 = .ok (.aload_n 0, 1) := by decide +kernel
theorem dX9_isIn_9 : decode cX9_isIn 9 = .ok (.iload_n 1, 1) := by decide +kernel
theorem dX9_isIn_10 : decode cX9_isIn 10 = .ok (.invokevirtual 179, 3) := by decide +kernel
theorem dX9_isIn_13 : decode cX9_isIn 13 = .ok (.if_icmp .ge 66, 3) := by decide +kernel
theorem dX9_isIn_16 : decode cX9_isIn 16 = .ok (.iload_n 2, 1) := by decide +kernel
theorem dX9_isIn_17 : decode cX9_isIn 17 = .ok (.iload 5, 2) := by decide +kernel
theorem dX9_isIn_19 : decode cX9_isIn 19 = .ok (.invokestatic 117, 3) := by decide +kernel
theorem dX9_isIn_22 : decode cX9_isIn 22 = .ok (.ifCond .eq 51, 3) := by decide +kernel
theorem dX9_isIn_25 : decode cX9_isIn 25 = .ok (.iload 4, 2) := by decide +kernel
theorem dX9_isIn_27 : decode cX9_isIn 27 = .ok (.aload_n 0, 1) := by decide +kernel
theorem dX9_isIn_28 : decode cX9_isIn 28 = .ok (.iload_n 3, 1) := by decide +kernel
theorem dX9_isIn_29 : decode cX9_isIn 29 = .ok (.invokevirtual 179, 3) := by decide +kernel
theorem dX9_isIn_32 : decode cX9_isIn 32 = .ok (.if_icmp .ge 26, 3) := by decide +kernel
theorem dX9_isIn_35 : decode cX9_isIn 35 = .ok (.aload_n 0, 1) := by decide +kernel
theorem dX9_isIn_36 : decode cX9_isIn 36 = .ok (.iload_n 3, 1) := by decide +kernel
theorem dX9_isIn_37 : decode cX9_isIn 37 = .ok (.iload 4, 2) := by decide +kernel
theorem dX9_isIn_39 : decode cX9_isIn 39 = .ok (.invokevirtual 185, 3) := by decide +kernel
theorem dX9_isIn_42 : decode cX9_isIn 42 = .ok (.aload_n 0, 1) := by decide +kernel
theorem dX9_isIn_43 : decode cX9_isIn 43 = .ok (.iload_n 1, 1) := by decide +kernel
theorem dX9_isIn_44 : decode cX9_isIn 44 = .ok (.iload 5, 2) := by decide +kernel
theorem dX9_isIn_46 : decode cX9_isIn 46 = .ok (.invokevirtual 185, 3) := by decide +kernel
theorem dX9_isIn_49 : decode cX9_isIn 49 = .ok (.if_icmp .eq 9, 3) := by decide +kernel
theorem dX9_isIn_52 : decode cX9_isIn 52 = .ok (.iinc 4 1, 3) := by decide +kernel
theorem dX9_isIn_55 : decode cX9_isIn 55 = .ok (.goto (-30), 3) := by decide +kernel
theorem dX9_isIn_58 : decode cX9_isIn 58 = .ok (.iload 4, 2) := by decide +kernel
theorem dX9_isIn_60 : decode cX9_isIn 60 = .ok (.aload_n 0, 1) := by decide +kernel
theorem dX9_isIn_61 : decode cX9_isIn 61 = .ok (.iload_n 3, 1) := by decide +kernel
theorem dX9_isIn_62 : decode cX9_isIn 62 = .ok (.invokevirtual 179, 3) := by decide +kernel
theorem dX9_isIn_65 : decode cX9_isIn 65 = .ok (.if_icmp .ne 5, 3) := by decide +kernel
theorem dX9_isIn_68 : decode cX9_isIn 68 = .ok (.iconst 0, 1) := by decide +kernel
theorem dX9_isIn_69 : decode cX9_isIn 69 = .ok (.ireturn, 1) := by decide +kernel
theorem dX9_isIn_70 : decode cX9_isIn 70 = .ok (.iinc 4 1, 3) := by decide +kernel
theorem dX9_isIn_73 : decode cX9_isIn 73 = .ok (.iinc 5 1, 3) := by decide +kernel
theorem dX9_isIn_76 : decode cX9_isIn 76 = .ok (.goto (-70), 3) := by decide +kernel
theorem dX9_isIn_79 : decode cX9_isIn 79 = .ok (.iconst 1, 1) := by decide +kernel
theorem dX9_isIn_80 : decode cX9_isIn 80 = .ok (.ireturn, 1) := by decide +kernel
theorem dX9_brief_0 : decode cX9_brief 0 = .ok (.aload_n 0, 1) := by decide +kernel
theorem dX9_brief_1 : decode cX9_brief 1 = .ok (.iload_n 1, 1) := by decide +kernel
theorem dX9_brief_2 : decode cX9_brief 2 = .ok (.invokevirtual 174, 3) := by decide +kernel
theorem dX9_brief_5 : decode cX9_brief 5 = .ok (.ifCond .ne 5, 3) := by decide +kernel
theorem dX9_brief_8 : decode cX9_brief 8 = .ok (.iconst (-1), 1) := by decide +kernel
theorem dX9_brief_9 : decode cX9_brief 9 = .ok (.ireturn, 1) := by decide +kernel
theorem dX9_brief_10 : decode cX9_brief 10 = .ok (.bipush (-4), 2) := by decide +kernel
theorem dX9_brief_12 : decode cX9_brief 12 = .ok (.istore_n 2, 1) := by decide +kernel
theorem dX9_brief_13 : decode cX9_brief 13 = .ok (.iconst 1, 1) := by decide +kernel
theorem dX9_brief_14 : decode cX9_brief 14 = .ok (.istore_n 3, 1) := by decide +kernel
theorem dX9_brief_15 : decode cX9_brief 15 = .ok (.iload_n 3, 1) := by decide +kernel
theorem dX9_brief_16 : decode cX9_brief 16 = .ok (.iconst 1, 1) := by decide +kernel
theorem dX9_brief_17 : decode cX9_brief 17 = .ok (.aload_n 0, 1) := by decide +kernel
theorem dX9_brief_18 : decode cX9_brief 18 = .ok (.iload_n 1, 1) := by decide +kernel
theorem dX9_brief_19 : decode cX9_brief 19 = .ok (.invokevirtual 179, 3) := by decide +kernel
theorem dX9_brief_22 : decode cX9_brief 22 = .ok (.ishl, 1) := by decide +kernel
theorem dX9_brief_23 : decode cX9_brief 23 = .ok (.if_icmp .ge 89, 3) := by decide +kernel
theorem dX9_brief_26 : decode cX9_brief 26 = .ok (.iconst 1, 1) := by decide +kernel
theorem dX9_brief_27 : decode cX9_brief 27 = .ok (.istore 4, 2) := by decide +kernel
theorem dX9_brief_29 : decode cX9_brief 29 = .ok (.iconst 0, 1) := by decide +kernel
theorem dX9_brief_30 : decode cX9_brief 30 = .ok (.istore 5, 2) := by decide +kernel
theorem dX9_brief_32 : decode cX9_brief 32 = .ok (.iload 5, 2) := by decide +kernel
theorem dX9_brief_34 : decode cX9_brief 34 = .ok (.aload_n 0, 1) := by decide +kernel
theorem dX9_brief_35 : decode cX9_brief 35 = .ok (.getfield 83, 3) := by decide +kernel
theorem dX9_brief_38 : decode cX9_brief 38 = .ok (.if_icmp .ge 42, 3) := by decide +kernel
theorem dX9_brief_41 : decode cX9_brief 41 = .ok (.iload 4, 2) := by decide +kernel
theorem dX9_brief_43 : decode cX9_brief 43 = .ok (.ifCond .eq 28, 3) := by decide +kernel
theorem dX9_brief_46 : decode cX9_brief 46 = .ok (.aload_n 0, 1) := by decide +kernel
theorem dX9_brief_47 : decode cX9_brief 47 = .ok (.iload_n 1, 1) := by decide +kernel
theorem dX9_brief_48 : decode cX9_brief 48 = .ok (.iload 5, 2) := by decide +kernel
theorem dX9_brief_50 : decode cX9_brief 50 = .ok (.invokevirtual 224, 3) := by decide +kernel
theorem dX9_brief_53 : decode cX9_brief 53 = .ok (.ifCond .ne 14, 3) := by decide +kernel
theorem dX9_brief_56 : decode cX9_brief 56 = .ok (.aload_n 0, 1) := by decide +kernel
theorem dX9_brief_57 : decode cX9_brief 57 = .ok (.iload_n 1, 1) := by decide +kernel
theorem dX9_brief_58 : decode cX9_brief 58 = .ok (.iload_n 3, 1) := by decide +kernel
theorem dX9_brief_59 : decode cX9_brief 59 = .ok (.iload 5, 2) := by decide +kernel
theorem dX9_brief_61 : decode cX9_brief 61 = .ok (.invokevirtual 227, 3) := by decide +kernel
theorem dX9_brief_64 : decode cX9_brief 64 = .ok (.ifCond .ne 7, 3) := by decide +kernel
theorem dX9_brief_67 : decode cX9_brief 67 = .ok (.iconst 1, 1) := by decide +kernel
theorem dX9_brief_68 : decode cX9_brief 68 = .ok (.goto 4, 3) := by decide +kernel
theorem dX9_brief_71 : decode cX9_brief 71 = .ok (.iconst 0, 1) := by decide +kernel
theorem dX9_brief_72 : decode cX9_brief 72 = .ok (.istore 4, 2) := by decide +kernel
theorem dX9_brief_74 : decode cX9_brief 74 = .ok (.iinc 5 1, 3) := by decide +kernel
theorem dX9_brief_77 : decode cX9_brief 77 = .ok (.goto (-45), 3) := by decide +kernel
theorem dX9_brief_80 : decode cX9_brief 80 = .ok (.iload 4, 2) := by decide +kernel
theorem dX9_brief_82 : decode cX9_brief 82 = .ok (.ifCond .eq 22, 3) := by decide +kernel
theorem dX9_brief_85 : decode cX9_brief 85 = .ok (.iload_n 2, 1) := by decide +kernel
theorem dX9_brief_86 : decode cX9_brief 86 = .ok (.ifCond .lt 14, 3) := by decide +kernel
theorem dX9_brief_89 : decode cX9_brief 89 = .ok (.iload_n 3, 1) := by decide +kernel
theorem dX9_brief_90 : decode cX9_brief 90 = .ok (.invokestatic 108, 3) := by decide +kernel
theorem dX9_brief_93 : decode cX9_brief 93 = .ok (.iload_n 2, 1) := by decide +kernel
theorem dX9_brief_94 : decode cX9_brief 94 = .ok (.invokestatic 108, 3) := by decide +kernel
theorem dX9_brief_97 : decode cX9_brief 97 = .ok (.if_icmp .ge 7, 3) := by decide +kernel
theorem dX9_brief_100 : decode cX9_brief 100 = .ok (.iload_n 3, 1) := by decide +kernel
theorem dX9_brief_101 : decode cX9_brief 101 = .ok (.goto 4, 3) := by decide +kernel
theorem dX9_brief_104 : decode cX9_brief 104 = .ok (.iload_n 2, 1) := by decide +kernel
theorem dX9_brief_105 : decode cX9_brief 105 = .ok (.istore_n 2, 1) := by decide +kernel
theorem dX9_brief_106 : decode cX9_brief 106 = .ok (.iinc 3 1, 3) := by decide +kernel
theorem dX9_brief_109 : decode cX9_brief 109 = .ok (.goto (-94), 3) := by decide +kernel
theorem dX9_brief_112 : decode cX9_brief 112 = .ok (.iload_n 2, 1) := by decide +kernel
theorem dX9_brief_113 : decode cX9_brief 113 = .ok (.ireturn, 1) := by decide +kernel
theorem dX9_carried_0 : decode cX9_carried 0 = .ok (.iload_n 1, 1) := by decide +kernel
theorem dX9_carried_1 : decode cX9_carried 1 = .ok (.istore 4, 2) := by decide +kernel
theorem dX9_carried_3 : decode cX9_carried 3 = .ok (.iload 4, 2) := by decide +kernel
theorem dX9_carried_5 : decode cX9_carried 5 = .ok (.bipush 9, 2) := by decide +kernel
theorem dX9_carried_7 : decode cX9_carried 7 = .ok (.if_icmp .ge 33, 3) := by decide +kernel
theorem dX9_carried_10 : decode cX9_carried 10 = .ok (.aload_n 0, 1) := by decide +kernel
theorem dX9_carried_11 : decode cX9_carried 11 = .ok (.getfield 13, 3) := by decide +kernel
theorem dX9_carried_14 : decode cX9_carried 14 = .ok (.iload 4, 2) := by decide +kernel
theorem dX9_carried_16 : decode cX9_carried 16 = .ok (.iload_n 3, 1) := by decide +kernel
theorem dX9_carried_17 : decode cX9_carried 17 = .ok (.ifCond .eq 7, 3) := by decide +kernel
theorem dX9_carried_20 : decode cX9_carried 20 = .ok (.iload_n 2, 1) := by decide +kernel
theorem dX9_carried_21 : decode cX9_carried 21 = .ok (.goto 10, 3) := by decide +kernel
theorem dX9_carried_24 : decode cX9_carried 24 = .ok (.aload_n 0, 1) := by decide +kernel
theorem dX9_carried_25 : decode cX9_carried 25 = .ok (.getfield 13, 3) := by decide +kernel
theorem dX9_carried_28 : decode cX9_carried 28 = .ok (.iload 4, 2) := by decide +kernel
theorem dX9_carried_30 : decode cX9_carried 30 = .ok (.iaload, 1) := by decide +kernel
theorem dX9_carried_31 : decode cX9_carried 31 = .ok (.iastore, 1) := by decide +kernel
theorem dX9_carried_32 : decode cX9_carried 32 = .ok (.aload_n 0, 1) := by decide +kernel
theorem dX9_carried_33 : decode cX9_carried 33 = .ok (.getfield 13, 3) := by decide +kernel
theorem dX9_carried_36 : decode cX9_carried 36 = .ok (.iload 4, 2) := by decide +kernel
theorem dX9_carried_38 : decode cX9_carried 38 = .ok (.iaload, 1) := by decide +kernel
theorem dX9_carried_39 : decode cX9_carried 39 = .ok (.ireturn, 1) := by decide +kernel
theorem dX9_carried_40 : decode cX9_carried 40 = .ok (.iinc 4 (-9), 3) := by decide +kernel
theorem dX9_carried_43 : decode cX9_carried 43 = .ok (.iload 4, 2) := by decide +kernel
theorem dX9_carried_45 : decode cX9_carried 45 = .ok (.sipush 135, 3) := by decide +kernel
theorem dX9_carried_48 : decode cX9_carried 48 = .ok (.if_icmp .ge 33, 3) := by decide +kernel
theorem dX9_carried_51 : decode cX9_carried 51 = .ok (.aload_n 0, 1) := by decide +kernel
theorem dX9_carried_52 : decode cX9_carried 52 = .ok (.getfield 16, 3) := by decide +kernel
theorem dX9_carried_55 : decode cX9_carried 55 = .ok (.iload 4, 2) := by decide +kernel
theorem dX9_carried_57 : decode cX9_carried 57 = .ok (.iload_n 3, 1) := by decide +kernel
theorem dX9_carried_58 : decode cX9_carried 58 = .ok (.ifCond .eq 7, 3) := by decide +kernel
theorem dX9_carried_61 : decode cX9_carried 61 = .ok (.iload_n 2, 1) := by decide +kernel
theorem dX9_carried_62 : decode cX9_carried 62 = .ok (.goto 10, 3) := by decide +kernel
theorem dX9_carried_65 : decode cX9_carried 65 = .ok (.aload_n 0, 1) := by decide +kernel
theorem dX9_carried_66 : decode cX9_carried 66 = .ok (.getfield 16, 3) := by decide +kernel
theorem dX9_carried_69 : decode cX9_carried 69 = .ok (.iload 4, 2) := by decide +kernel
theorem dX9_carried_71 : decode cX9_carried 71 = .ok (.iaload, 1) := by decide +kernel
theorem dX9_carried_72 : decode cX9_carried 72 = .ok (.iastore, 1) := by decide +kernel
theorem dX9_carried_73 : decode cX9_carried 73 = .ok (.aload_n 0, 1) := by decide +kernel
theorem dX9_carried_74 : decode cX9_carried 74 = .ok (.getfield 16, 3) := by decide +kernel
theorem dX9_carried_77 : decode cX9_carried 77 = .ok (.iload 4, 2) := by decide +kernel
theorem dX9_carried_79 : decode cX9_carried 79 = .ok (.iaload, 1) := by decide +kernel
theorem dX9_carried_80 : decode cX9_carried 80 = .ok (.ireturn, 1) := by decide +kernel
theorem dX9_carried_81 : decode cX9_carried 81 = .ok (.iinc 4 (-135), 6) := by decide +kernel
theorem dX9_carried_87 : decode cX9_carried 87 = .ok (.iload 4, 2) := by decide +kernel
theorem dX9_carried_89 : decode cX9_carried 89 = .ok (.bipush 6, 2) := by decide +kernel
theorem dX9_carried_91 : decode cX9_carried 91 = .ok (.if_icmp .ge 33, 3) := by decide +kernel
theorem dX9_carried_94 : decode cX9_carried 94 = .ok (.aload_n 0, 1) := by decide +kernel
theorem dX9_carried_95 : decode cX9_carried 95 = .ok (.getfield 19, 3) := by decide +kernel
theorem dX9_carried_98 : decode cX9_carried 98 = .ok (.iload 4, 2) := by decide +kernel
theorem dX9_carried_100 : decode cX9_carried 100 = .ok (.iload_n 3, 1) := by decide +kernel
theorem dX9_carried_101 : decode cX9_carried 101 = .ok (.ifCond .eq 7, 3) := by decide +kernel
theorem dX9_carried_104 : decode cX9_carried 104 = .ok (.iload_n 2, 1) := by decide +kernel
theorem dX9_carried_105 : decode cX9_carried 105 = .ok (.goto 10, 3) := by decide +kernel
theorem dX9_carried_108 : decode cX9_carried 108 = .ok (.aload_n 0, 1) := by decide +kernel
theorem dX9_carried_109 : decode cX9_carried 109 = .ok (.getfield 19, 3) := by decide +kernel
theorem dX9_carried_112 : decode cX9_carried 112 = .ok (.iload 4, 2) := by decide +kernel
theorem dX9_carried_114 : decode cX9_carried 114 = .ok (.iaload, 1) := by decide +kernel
theorem dX9_carried_115 : decode cX9_carried 115 = .ok (.iastore, 1) := by decide +kernel
theorem dX9_carried_116 : decode cX9_carried 116 = .ok (.aload_n 0, 1) := by decide +kernel
theorem dX9_carried_117 : decode cX9_carried 117 = .ok (.getfield 19, 3) := by decide +kernel
theorem dX9_carried_120 : decode cX9_carried 120 = .ok (.iload 4, 2) := by decide +kernel
theorem dX9_carried_122 : decode cX9_carried 122 = .ok (.iaload, 1) := by decide +kernel
theorem dX9_carried_123 : decode cX9_carried 123 = .ok (.ireturn, 1) := by decide +kernel
theorem dX9_carried_124 : decode cX9_carried 124 = .ok (.iinc 4 (-6), 3) := by decide +kernel
theorem dX9_carried_127 : decode cX9_carried 127 = .ok (.iload 4, 2) := by decide +kernel
theorem dX9_carried_129 : decode cX9_carried 129 = .ok (.iconst 4, 1) := by decide +kernel
theorem dX9_carried_130 : decode cX9_carried 130 = .ok (.if_icmp .ge 33, 3) := by decide +kernel
theorem dX9_carried_133 : decode cX9_carried 133 = .ok (.aload_n 0, 1) := by decide +kernel
theorem dX9_carried_134 : decode cX9_carried 134 = .ok (.getfield 22, 3) := by decide +kernel
theorem dX9_carried_137 : decode cX9_carried 137 = .ok (.iload 4, 2) := by decide +kernel
theorem dX9_carried_139 : decode cX9_carried 139 = .ok (.iload_n 3, 1) := by decide +kernel
theorem dX9_carried_140 : decode cX9_carried 140 = .ok (.ifCond .eq 7, 3) := by decide +kernel
theorem dX9_carried_143 : decode cX9_carried 143 = .ok (.iload_n 2, 1) := by decide +kernel
theorem dX9_carried_144 : decode cX9_carried 144 = .ok (.goto 10, 3) := by decide +kernel
theorem dX9_carried_147 : decode cX9_carried 147 = .ok (.aload_n 0, 1) := by decide +kernel
theorem dX9_carried_148 : decode cX9_carried 148 = .ok (.getfield 22, 3) := by decide +kernel
theorem dX9_carried_151 : decode cX9_carried 151 = .ok (.iload 4, 2) := by decide +kernel
theorem dX9_carried_153 : decode cX9_carried 153 = .ok (.iaload, 1) := by decide +kernel
theorem dX9_carried_154 : decode cX9_carried 154 = .ok (.iastore, 1) := by decide +kernel
theorem dX9_carried_155 : decode cX9_carried 155 = .ok (.aload_n 0, 1) := by decide +kernel
theorem dX9_carried_156 : decode cX9_carried 156 = .ok (.getfield 22, 3) := by decide +kernel
theorem dX9_carried_159 : decode cX9_carried 159 = .ok (.iload 4, 2) := by decide +kernel
theorem dX9_carried_161 : decode cX9_carried 161 = .ok (.iaload, 1) := by decide +kernel
theorem dX9_carried_162 : decode cX9_carried 162 = .ok (.ireturn, 1) := by decide +kernel
theorem dX9_carried_163 : decode cX9_carried 163 = .ok (.iinc 4 (-4), 3) := by decide +kernel
theorem dX9_carried_166 : decode cX9_carried 166 = .ok (.iload 4, 2) := by decide +kernel
theorem dX9_carried_168 : decode cX9_carried 168 = .ok (.bipush 36, 2) := by decide +kernel
theorem dX9_carried_170 : decode cX9_carried 170 = .ok (.if_icmp .ge 33, 3) := by decide +kernel
theorem dX9_carried_173 : decode cX9_carried 173 = .ok (.aload_n 0, 1) := by decide +kernel
theorem dX9_carried_174 : decode cX9_carried 174 = .ok (.getfield 25, 3) := by decide +kernel
theorem dX9_carried_177 : decode cX9_carried 177 = .ok (.iload 4, 2) := by decide +kernel
theorem dX9_carried_179 : decode cX9_carried 179 = .ok (.iload_n 3, 1) := by decide +kernel
theorem dX9_carried_180 : decode cX9_carried 180 = .ok (.ifCond .eq 7, 3) := by decide +kernel
theorem dX9_carried_183 : decode cX9_carried 183 = .ok (.iload_n 2, 1) := by decide +kernel
theorem dX9_carried_184 : decode cX9_carried 184 = .ok (.goto 10, 3) := by decide +kernel
theorem dX9_carried_187 : decode cX9_carried 187 = .ok (.aload_n 0, 1) := by decide +kernel
theorem dX9_carried_188 : decode cX9_carried 188 = .ok (.getfield 25, 3) := by decide +kernel
theorem dX9_carried_191 : decode cX9_carried 191 = .ok (.iload 4, 2) := by decide +kernel
theorem dX9_carried_193 : decode cX9_carried 193 = .ok (.iaload, 1) := by decide +kernel
theorem dX9_carried_194 : decode cX9_carried 194 = .ok (.iastore, 1) := by decide +kernel
theorem dX9_carried_195 : decode cX9_carried 195 = .ok (.aload_n 0, 1) := by decide +kernel
theorem dX9_carried_196 : decode cX9_carried 196 = .ok (.getfield 25, 3) := by decide +kernel
theorem dX9_carried_199 : decode cX9_carried 199 = .ok (.iload 4, 2) := by decide +kernel
theorem dX9_carried_201 : decode cX9_carried 201 = .ok (.iaload, 1) := by decide +kernel
theorem dX9_carried_202 : decode cX9_carried 202 = .ok (.ireturn, 1) := by decide +kernel
theorem dX9_carried_203 : decode cX9_carried 203 = .ok (.iinc 4 (-36), 3) := by decide +kernel
theorem dX9_carried_206 : decode cX9_carried 206 = .ok (.aload_n 0, 1) := by decide +kernel
theorem dX9_carried_207 : decode cX9_carried 207 = .ok (.getfield 28, 3) := by decide +kernel
theorem dX9_carried_210 : decode cX9_carried 210 = .ok (.iload 4, 2) := by decide +kernel
theorem dX9_carried_212 : decode cX9_carried 212 = .ok (.iload_n 3, 1) := by decide +kernel
theorem dX9_carried_213 : decode cX9_carried 213 = .ok (.ifCond .eq 7, 3) := by decide +kernel
theorem dX9_carried_216 : decode cX9_carried 216 = .ok (.iload_n 2, 1) := by decide +kernel
theorem dX9_carried_217 : decode cX9_carried 217 = .ok (.goto 10, 3) := by decide +kernel
theorem dX9_carried_220 : decode cX9_carried 220 = .ok (.aload_n 0, 1) := by decide +kernel
theorem dX9_carried_221 : decode cX9_carried 221 = .ok (.getfield 28, 3) := by decide +kernel
theorem dX9_carried_224 : decode cX9_carried 224 = .ok (.iload 4, 2) := by decide +kernel
theorem dX9_carried_226 : decode cX9_carried 226 = .ok (.iaload, 1) := by decide +kernel
theorem dX9_carried_227 : decode cX9_carried 227 = .ok (.iastore, 1) := by decide +kernel
theorem dX9_carried_228 : decode cX9_carried 228 = .ok (.aload_n 0, 1) := by decide +kernel
theorem dX9_carried_229 : decode cX9_carried 229 = .ok (.getfield 28, 3) := by decide +kernel
theorem dX9_carried_232 : decode cX9_carried 232 = .ok (.iload 4, 2) := by decide +kernel
theorem dX9_carried_234 : decode cX9_carried 234 = .ok (.iaload, 1) := by decide +kernel
theorem dX9_carried_235 : decode cX9_carried 235 = .ok (.ireturn, 1) := by decide +kernel
theorem dX9_image_0 : decode cX9_image 0 = .ok (.iconst 0, 1) := by decide +kernel
theorem dX9_image_1 : decode cX9_image 1 = .ok (.istore_n 1, 1) := by decide +kernel
theorem dX9_image_2 : decode cX9_image 2 = .ok (.iload_n 1, 1) := by decide +kernel
theorem dX9_image_3 : decode cX9_image 3 = .ok (.sipush 270, 3) := by decide +kernel
theorem dX9_image_6 : decode cX9_image 6 = .ok (.if_icmp .ge 22, 3) := by decide +kernel
theorem dX9_image_9 : decode cX9_image 9 = .ok (.aload_n 0, 1) := by decide +kernel
theorem dX9_image_10 : decode cX9_image 10 = .ok (.getfield 56, 3) := by decide +kernel
theorem dX9_image_13 : decode cX9_image 13 = .ok (.iload_n 1, 1) := by decide +kernel
theorem dX9_image_14 : decode cX9_image 14 = .ok (.aload_n 0, 1) := by decide +kernel
theorem dX9_image_15 : decode cX9_image 15 = .ok (.iload_n 1, 1) := by decide +kernel
theorem dX9_image_16 : decode cX9_image 16 = .ok (.iconst 0, 1) := by decide +kernel
theorem dX9_image_17 : decode cX9_image 17 = .ok (.iconst 0, 1) := by decide +kernel
theorem dX9_image_18 : decode cX9_image 18 = .ok (.invokevirtual 231, 3) := by decide +kernel
theorem dX9_image_21 : decode cX9_image 21 = .ok (.iastore, 1) := by decide +kernel
theorem dX9_image_22 : decode cX9_image 22 = .ok (.iinc 1 1, 3) := by decide +kernel
theorem dX9_image_25 : decode cX9_image 25 = .ok (.goto (-23), 3) := by decide +kernel
theorem dX9_image_28 : decode cX9_image 28 = .ok (.aload_n 0, 1) := by decide +kernel
theorem dX9_image_29 : decode cX9_image 29 = .ok (.getfield 59, 3) := by decide +kernel
theorem dX9_image_32 : decode cX9_image 32 = .ok (.iconst 0, 1) := by decide +kernel
theorem dX9_image_33 : decode cX9_image 33 = .ok (.aload_n 0, 1) := by decide +kernel
theorem dX9_image_34 : decode cX9_image 34 = .ok (.getfield 71, 3) := by decide +kernel
theorem dX9_image_37 : decode cX9_image 37 = .ok (.iastore, 1) := by decide +kernel
theorem dX9_image_38 : decode cX9_image 38 = .ok (.aload_n 0, 1) := by decide +kernel
theorem dX9_image_39 : decode cX9_image 39 = .ok (.getfield 59, 3) := by decide +kernel
theorem dX9_image_42 : decode cX9_image 42 = .ok (.iconst 1, 1) := by decide +kernel
theorem dX9_image_43 : decode cX9_image 43 = .ok (.aload_n 0, 1) := by decide +kernel
theorem dX9_image_44 : decode cX9_image 44 = .ok (.getfield 83, 3) := by decide +kernel
theorem dX9_image_47 : decode cX9_image 47 = .ok (.iastore, 1) := by decide +kernel
theorem dX9_image_48 : decode cX9_image 48 = .ok (.aload_n 0, 1) := by decide +kernel
theorem dX9_image_49 : decode cX9_image 49 = .ok (.iconst 1, 1) := by decide +kernel
theorem dX9_image_50 : decode cX9_image 50 = .ok (.putfield 235, 3) := by decide +kernel
theorem dX9_image_53 : decode cX9_image 53 = .ok (.iconst 1, 1) := by decide +kernel
theorem dX9_image_54 : decode cX9_image 54 = .ok (.ireturn, 1) := by decide +kernel
theorem dX9_restore_0 : decode cX9_restore 0 = .ok (.aload_n 0, 1) := by decide +kernel
theorem dX9_restore_1 : decode cX9_restore 1 = .ok (.getfield 235, 3) := by decide +kernel
theorem dX9_restore_4 : decode cX9_restore 4 = .ok (.ifCond .ne 6, 3) := by decide +kernel
theorem dX9_restore_7 : decode cX9_restore 7 = .ok (.bipush (-4), 2) := by decide +kernel
theorem dX9_restore_9 : decode cX9_restore 9 = .ok (.ireturn, 1) := by decide +kernel
theorem dX9_restore_10 : decode cX9_restore 10 = .ok (.iconst 0, 1) := by decide +kernel
theorem dX9_restore_11 : decode cX9_restore 11 = .ok (.istore_n 1, 1) := by decide +kernel
theorem dX9_restore_12 : decode cX9_restore 12 = .ok (.iload_n 1, 1) := by decide +kernel
theorem dX9_restore_13 : decode cX9_restore 13 = .ok (.sipush 270, 3) := by decide +kernel
theorem dX9_restore_16 : decode cX9_restore 16 = .ok (.if_icmp .ge 22, 3) := by decide +kernel
theorem dX9_restore_19 : decode cX9_restore 19 = .ok (.aload_n 0, 1) := by decide +kernel
theorem dX9_restore_20 : decode cX9_restore 20 = .ok (.iload_n 1, 1) := by decide +kernel
theorem dX9_restore_21 : decode cX9_restore 21 = .ok (.aload_n 0, 1) := by decide +kernel
theorem dX9_restore_22 : decode cX9_restore 22 = .ok (.getfield 56, 3) := by decide +kernel
theorem dX9_restore_25 : decode cX9_restore 25 = .ok (.iload_n 1, 1) := by decide +kernel
theorem dX9_restore_26 : decode cX9_restore 26 = .ok (.iaload, 1) := by decide +kernel
theorem dX9_restore_27 : decode cX9_restore 27 = .ok (.iconst 1, 1) := by decide +kernel
theorem dX9_restore_28 : decode cX9_restore 28 = .ok (.invokevirtual 231, 3) := by decide +kernel
theorem dX9_restore_31 : decode cX9_restore 31 = .ok (.pop, 1) := by decide +kernel
theorem dX9_restore_32 : decode cX9_restore 32 = .ok (.iinc 1 1, 3) := by decide +kernel
theorem dX9_restore_35 : decode cX9_restore 35 = .ok (.goto (-23), 3) := by decide +kernel
theorem dX9_restore_38 : decode cX9_restore 38 = .ok (.aload_n 0, 1) := by decide +kernel
theorem dX9_restore_39 : decode cX9_restore 39 = .ok (.aload_n 0, 1) := by decide +kernel
theorem dX9_restore_40 : decode cX9_restore 40 = .ok (.getfield 59, 3) := by decide +kernel
theorem dX9_restore_43 : decode cX9_restore 43 = .ok (.iconst 0, 1) := by decide +kernel
theorem dX9_restore_44 : decode cX9_restore 44 = .ok (.iaload, 1) := by decide +kernel
theorem dX9_restore_45 : decode cX9_restore 45 = .ok (.putfield 71, 3) := by decide +kernel
theorem dX9_restore_48 : decode cX9_restore 48 = .ok (.aload_n 0, 1) := by decide +kernel
theorem dX9_restore_49 : decode cX9_restore 49 = .ok (.aload_n 0, 1) := by decide +kernel
theorem dX9_restore_50 : decode cX9_restore 50 = .ok (.getfield 59, 3) := by decide +kernel
theorem dX9_restore_53 : decode cX9_restore 53 = .ok (.iconst 1, 1) := by decide +kernel
theorem dX9_restore_54 : decode cX9_restore 54 = .ok (.iaload, 1) := by decide +kernel
theorem dX9_restore_55 : decode cX9_restore 55 = .ok (.putfield 83, 3) := by decide +kernel
theorem dX9_restore_58 : decode cX9_restore 58 = .ok (.iconst 1, 1) := by decide +kernel
theorem dX9_restore_59 : decode cX9_restore 59 = .ok (.ireturn, 1) := by decide +kernel
theorem dX9_isSheet_0 : decode cX9_isSheet 0 = .ok (.iload_n 0, 1) := by decide +kernel
theorem dX9_isSheet_1 : decode cX9_isSheet 1 = .ok (.i2l, 1) := by decide +kernel
theorem dX9_isSheet_2 : decode cX9_isSheet 2 = .ok (.lconst 0, 1) := by decide +kernel
theorem dX9_isSheet_3 : decode cX9_isSheet 3 = .ok (.ldc2_w 92, 3) := by decide +kernel
theorem dX9_isSheet_6 : decode cX9_isSheet 6 = .ok (.invokestatic 75, 3) := by decide +kernel
theorem dX9_isSheet_9 : decode cX9_isSheet 9 = .ok (.ifCond .eq 19, 3) := by decide +kernel
theorem dX9_isSheet_12 : decode cX9_isSheet 12 = .ok (.iload_n 1, 1) := by decide +kernel
theorem dX9_isSheet_13 : decode cX9_isSheet 13 = .ok (.i2l, 1) := by decide +kernel
theorem dX9_isSheet_14 : decode cX9_isSheet 14 = .ok (.lconst 0, 1) := by decide +kernel
theorem dX9_isSheet_15 : decode cX9_isSheet 15 = .ok (.ldc2_w 239, 3) := by decide +kernel
theorem dX9_isSheet_18 : decode cX9_isSheet 18 = .ok (.invokestatic 75, 3) := by decide +kernel
theorem dX9_isSheet_21 : decode cX9_isSheet 21 = .ok (.ifCond .eq 7, 3) := by decide +kernel
theorem dX9_isSheet_24 : decode cX9_isSheet 24 = .ok (.iconst 1, 1) := by decide +kernel
theorem dX9_isSheet_25 : decode cX9_isSheet 25 = .ok (.goto 4, 3) := by decide +kernel
theorem dX9_isSheet_28 : decode cX9_isSheet 28 = .ok (.iconst 0, 1) := by decide +kernel
theorem dX9_isSheet_29 : decode cX9_isSheet 29 = .ok (.ireturn, 1) := by decide +kernel
theorem dX9_sheet_0 : decode cX9_sheet 0 = .ok (.iload_n 1, 1) := by decide +kernel
theorem dX9_sheet_1 : decode cX9_sheet 1 = .ok (.iload_n 2, 1) := by decide +kernel
theorem dX9_sheet_2 : decode cX9_sheet 2 = .ok (.invokestatic 241, 3) := by decide +kernel
theorem dX9_sheet_5 : decode cX9_sheet 5 = .ok (.ifCond .eq 9, 3) := by decide +kernel
theorem dX9_sheet_8 : decode cX9_sheet 8 = .ok (.iload_n 3, 1) := by decide +kernel
theorem dX9_sheet_9 : decode cX9_sheet 9 = .ok (.bipush 24, 2) := by decide +kernel
theorem dX9_sheet_11 : decode cX9_sheet 11 = .ok (.if_icmp .le 5, 3) := by decide +kernel
theorem dX9_sheet_14 : decode cX9_sheet 14 = .ok (.iconst (-1), 1) := by decide +kernel
theorem dX9_sheet_15 : decode cX9_sheet 15 = .ok (.ireturn, 1) := by decide +kernel
theorem dX9_sheet_16 : decode cX9_sheet 16 = .ok (.iload_n 3, 1) := by decide +kernel
theorem dX9_sheet_17 : decode cX9_sheet 17 = .ok (.ifCond .ge 6, 3) := by decide +kernel
theorem dX9_sheet_20 : decode cX9_sheet 20 = .ok (.bipush (-14), 2) := by decide +kernel
theorem dX9_sheet_22 : decode cX9_sheet 22 = .ok (.ireturn, 1) := by decide +kernel
theorem dX9_sheet_23 : decode cX9_sheet 23 = .ok (.aload_n 0, 1) := by decide +kernel
theorem dX9_sheet_24 : decode cX9_sheet 24 = .ok (.getfield 62, 3) := by decide +kernel
theorem dX9_sheet_27 : decode cX9_sheet 27 = .ok (.iload_n 1, 1) := by decide +kernel
theorem dX9_sheet_28 : decode cX9_sheet 28 = .ok (.iload_n 2, 1) := by decide +kernel
theorem dX9_sheet_29 : decode cX9_sheet 29 = .ok (.iastore, 1) := by decide +kernel
theorem dX9_sheet_30 : decode cX9_sheet 30 = .ok (.aload_n 0, 1) := by decide +kernel
theorem dX9_sheet_31 : decode cX9_sheet 31 = .ok (.getfield 65, 3) := by decide +kernel
theorem dX9_sheet_34 : decode cX9_sheet 34 = .ok (.iload_n 1, 1) := by decide +kernel
theorem dX9_sheet_35 : decode cX9_sheet 35 = .ok (.iload_n 3, 1) := by decide +kernel
theorem dX9_sheet_36 : decode cX9_sheet 36 = .ok (.iastore, 1) := by decide +kernel
theorem dX9_sheet_37 : decode cX9_sheet 37 = .ok (.iconst 0, 1) := by decide +kernel
theorem dX9_sheet_38 : decode cX9_sheet 38 = .ok (.istore 4, 2) := by decide +kernel
theorem dX9_sheet_40 : decode cX9_sheet 40 = .ok (.iload 4, 2) := by decide +kernel
theorem dX9_sheet_42 : decode cX9_sheet 42 = .ok (.bipush 24, 2) := by decide +kernel
theorem dX9_sheet_44 : decode cX9_sheet 44 = .ok (.if_icmp .ge 22, 3) := by decide +kernel
theorem dX9_sheet_47 : decode cX9_sheet 47 = .ok (.aload_n 0, 1) := by decide +kernel
theorem dX9_sheet_48 : decode cX9_sheet 48 = .ok (.getfield 68, 3) := by decide +kernel
theorem dX9_sheet_51 : decode cX9_sheet 51 = .ok (.bipush 24, 2) := by decide +kernel
theorem dX9_sheet_53 : decode cX9_sheet 53 = .ok (.iload_n 1, 1) := by decide +kernel
theorem dX9_sheet_54 : decode cX9_sheet 54 = .ok (.imul, 1) := by decide +kernel
theorem dX9_sheet_55 : decode cX9_sheet 55 = .ok (.iload 4, 2) := by decide +kernel
theorem dX9_sheet_57 : decode cX9_sheet 57 = .ok (.iadd, 1) := by decide +kernel
theorem dX9_sheet_58 : decode cX9_sheet 58 = .ok (.iconst 0, 1) := by decide +kernel
theorem dX9_sheet_59 : decode cX9_sheet 59 = .ok (.iastore, 1) := by decide +kernel
theorem dX9_sheet_60 : decode cX9_sheet 60 = .ok (.iinc 4 1, 3) := by decide +kernel
theorem dX9_sheet_63 : decode cX9_sheet 63 = .ok (.goto (-23), 3) := by decide +kernel
theorem dX9_sheet_66 : decode cX9_sheet 66 = .ok (.iload_n 3, 1) := by decide +kernel
theorem dX9_sheet_67 : decode cX9_sheet 67 = .ok (.ireturn, 1) := by decide +kernel
theorem dX9_drop_0 : decode cX9_drop 0 = .ok (.iload_n 1, 1) := by decide +kernel
theorem dX9_drop_1 : decode cX9_drop 1 = .ok (.i2l, 1) := by decide +kernel
theorem dX9_drop_2 : decode cX9_drop 2 = .ok (.lconst 0, 1) := by decide +kernel
theorem dX9_drop_3 : decode cX9_drop 3 = .ok (.ldc2_w 92, 3) := by decide +kernel
theorem dX9_drop_6 : decode cX9_drop 6 = .ok (.invokestatic 75, 3) := by decide +kernel
theorem dX9_drop_9 : decode cX9_drop 9 = .ok (.ifCond .ne 5, 3) := by decide +kernel
theorem dX9_drop_12 : decode cX9_drop 12 = .ok (.iconst (-1), 1) := by decide +kernel
theorem dX9_drop_13 : decode cX9_drop 13 = .ok (.ireturn, 1) := by decide +kernel
theorem dX9_drop_14 : decode cX9_drop 14 = .ok (.aload_n 0, 1) := by decide +kernel
theorem dX9_drop_15 : decode cX9_drop 15 = .ok (.getfield 62, 3) := by decide +kernel
theorem dX9_drop_18 : decode cX9_drop 18 = .ok (.iload_n 1, 1) := by decide +kernel
theorem dX9_drop_19 : decode cX9_drop 19 = .ok (.iaload, 1) := by decide +kernel
theorem dX9_drop_20 : decode cX9_drop 20 = .ok (.ifCond .ge 6, 3) := by decide +kernel
theorem dX9_drop_23 : decode cX9_drop 23 = .ok (.bipush (-11), 2) := by decide +kernel
theorem dX9_drop_25 : decode cX9_drop 25 = .ok (.ireturn, 1) := by decide +kernel
theorem dX9_drop_26 : decode cX9_drop 26 = .ok (.aload_n 0, 1) := by decide +kernel
theorem dX9_drop_27 : decode cX9_drop 27 = .ok (.getfield 62, 3) := by decide +kernel
theorem dX9_drop_30 : decode cX9_drop 30 = .ok (.iload_n 1, 1) := by decide +kernel
theorem dX9_drop_31 : decode cX9_drop 31 = .ok (.iconst (-1), 1) := by decide +kernel
theorem dX9_drop_32 : decode cX9_drop 32 = .ok (.iastore, 1) := by decide +kernel
theorem dX9_drop_33 : decode cX9_drop 33 = .ok (.aload_n 0, 1) := by decide +kernel
theorem dX9_drop_34 : decode cX9_drop 34 = .ok (.getfield 65, 3) := by decide +kernel
theorem dX9_drop_37 : decode cX9_drop 37 = .ok (.iload_n 1, 1) := by decide +kernel
theorem dX9_drop_38 : decode cX9_drop 38 = .ok (.iaload, 1) := by decide +kernel
theorem dX9_drop_39 : decode cX9_drop 39 = .ok (.ireturn, 1) := by decide +kernel
theorem dX9_lacksRow_0 : decode cX9_lacksRow 0 = .ok (.aload_n 0, 1) := by decide +kernel
theorem dX9_lacksRow_1 : decode cX9_lacksRow 1 = .ok (.getfield 62, 3) := by decide +kernel
theorem dX9_lacksRow_4 : decode cX9_lacksRow 4 = .ok (.iload_n 1, 1) := by decide +kernel
theorem dX9_lacksRow_5 : decode cX9_lacksRow 5 = .ok (.iaload, 1) := by decide +kernel
theorem dX9_lacksRow_6 : decode cX9_lacksRow 6 = .ok (.iload_n 2, 1) := by decide +kernel
theorem dX9_lacksRow_7 : decode cX9_lacksRow 7 = .ok (.if_icmp .eq 20, 3) := by decide +kernel
theorem dX9_lacksRow_10 : decode cX9_lacksRow 10 = .ok (.aload_n 0, 1) := by decide +kernel
theorem dX9_lacksRow_11 : decode cX9_lacksRow 11 = .ok (.getfield 62, 3) := by decide +kernel
theorem dX9_lacksRow_14 : decode cX9_lacksRow 14 = .ok (.iload_n 1, 1) := by decide +kernel
theorem dX9_lacksRow_15 : decode cX9_lacksRow 15 = .ok (.iaload, 1) := by decide +kernel
theorem dX9_lacksRow_16 : decode cX9_lacksRow 16 = .ok (.ifCond .ge 8, 3) := by decide +kernel
theorem dX9_lacksRow_19 : decode cX9_lacksRow 19 = .ok (.bipush (-11), 2) := by decide +kernel
theorem dX9_lacksRow_21 : decode cX9_lacksRow 21 = .ok (.goto 5, 3) := by decide +kernel
theorem dX9_lacksRow_24 : decode cX9_lacksRow 24 = .ok (.bipush (-12), 2) := by decide +kernel
theorem dX9_lacksRow_26 : decode cX9_lacksRow 26 = .ok (.ireturn, 1) := by decide +kernel
theorem dX9_lacksRow_27 : decode cX9_lacksRow 27 = .ok (.iload_n 3, 1) := by decide +kernel
theorem dX9_lacksRow_28 : decode cX9_lacksRow 28 = .ok (.i2l, 1) := by decide +kernel
theorem dX9_lacksRow_29 : decode cX9_lacksRow 29 = .ok (.lconst 0, 1) := by decide +kernel
theorem dX9_lacksRow_30 : decode cX9_lacksRow 30 = .ok (.aload_n 0, 1) := by decide +kernel
theorem dX9_lacksRow_31 : decode cX9_lacksRow 31 = .ok (.getfield 65, 3) := by decide +kernel
theorem dX9_lacksRow_34 : decode cX9_lacksRow 34 = .ok (.iload_n 1, 1) := by decide +kernel
theorem dX9_lacksRow_35 : decode cX9_lacksRow 35 = .ok (.iaload, 1) := by decide +kernel
theorem dX9_lacksRow_36 : decode cX9_lacksRow 36 = .ok (.iload 4, 2) := by decide +kernel
theorem dX9_lacksRow_38 : decode cX9_lacksRow 38 = .ok (.isub, 1) := by decide +kernel
theorem dX9_lacksRow_39 : decode cX9_lacksRow 39 = .ok (.i2l, 1) := by decide +kernel
theorem dX9_lacksRow_40 : decode cX9_lacksRow 40 = .ok (.invokestatic 75, 3) := by decide +kernel
