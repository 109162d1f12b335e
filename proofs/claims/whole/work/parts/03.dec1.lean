theorem dX7_init_19 : decode cX7_init 19 = .ok (.dup, 1) := by decide +kernel
theorem dX7_init_20 : decode cX7_init 20 = .ok (.invokespecial 11, 3) := by decide +kernel
theorem dX7_init_23 : decode cX7_init 23 = .ok (.putfield 16, 3) := by decide +kernel
theorem dX7_init_26 : decode cX7_init 26 = .ok (.aload_n 0, 1) := by decide +kernel
theorem dX7_init_27 : decode cX7_init 27 = .ok (.iconst 0, 1) := by decide +kernel
theorem dX7_init_28 : decode cX7_init 28 = .ok (.putfield 19, 3) := by decide +kernel
theorem dX7_init_31 : decode cX7_init 31 = .ok (.aload_n 0, 1) := by decide +kernel
theorem dX7_init_32 : decode cX7_init 32 = .ok (.new 23, 3) := by decide +kernel
theorem dX7_init_35 : decode cX7_init 35 = .ok (.dup, 1) := by decide +kernel
theorem dX7_init_36 : decode cX7_init 36 = .ok (.invokespecial 25, 3) := by decide +kernel
theorem dX7_init_39 : decode cX7_init 39 = .ok (.putfield 26, 3) := by decide +kernel
theorem dX7_init_42 : decode cX7_init 42 = .ok (.aload_n 0, 1) := by decide +kernel
theorem dX7_init_43 : decode cX7_init 43 = .ok (.new 30, 3) := by decide +kernel
theorem dX7_init_46 : decode cX7_init 46 = .ok (.dup, 1) := by decide +kernel
theorem dX7_init_47 : decode cX7_init 47 = .ok (.invokespecial 32, 3) := by decide +kernel
theorem dX7_init_50 : decode cX7_init 50 = .ok (.putfield 33, 3) := by decide +kernel
theorem dX7_init_53 : decode cX7_init 53 = .ok (.aload_n 0, 1) := by decide +kernel
theorem dX7_init_54 : decode cX7_init 54 = .ok (.new 37, 3) := by decide +kernel
theorem dX7_init_57 : decode cX7_init 57 = .ok (.dup, 1) := by decide +kernel
theorem dX7_init_58 : decode cX7_init 58 = .ok (.invokespecial 39, 3) := by decide +kernel
theorem dX7_init_61 : decode cX7_init 61 = .ok (.putfield 40, 3) := by decide +kernel
theorem dX7_init_64 : decode cX7_init 64 = .ok (.aload_n 0, 1) := by decide +kernel
theorem dX7_init_65 : decode cX7_init 65 = .ok (.iconst 4, 1) := by decide +kernel
theorem dX7_init_66 : decode cX7_init 66 = .ok (.anewarray 44, 3) := by decide +kernel
theorem dX7_init_69 : decode cX7_init 69 = .ok (.putfield 46, 3) := by decide +kernel
theorem dX7_init_72 : decode cX7_init 72 = .ok (.iconst 0, 1) := by decide +kernel
theorem dX7_init_73 : decode cX7_init 73 = .ok (.istore_n 1, 1) := by decide +kernel
theorem dX7_init_74 : decode cX7_init 74 = .ok (.iload_n 1, 1) := by decide +kernel
theorem dX7_init_75 : decode cX7_init 75 = .ok (.iconst 4, 1) := by decide +kernel
theorem dX7_init_76 : decode cX7_init 76 = .ok (.if_icmp .ge 22, 3) := by decide +kernel
theorem dX7_init_79 : decode cX7_init 79 = .ok (.aload_n 0, 1) := by decide +kernel
theorem dX7_init_80 : decode cX7_init 80 = .ok (.getfield 46, 3) := by decide +kernel
theorem dX7_init_83 : decode cX7_init 83 = .ok (.iload_n 1, 1) := by decide +kernel
theorem dX7_init_84 : decode cX7_init 84 = .ok (.new 44, 3) := by decide +kernel
theorem dX7_init_87 : decode cX7_init 87 = .ok (.dup, 1) := by decide +kernel
theorem dX7_init_88 : decode cX7_init 88 = .ok (.invokespecial 50, 3) := by decide +kernel
theorem dX7_init_91 : decode cX7_init 91 = .ok (.aastore, 1) := by decide +kernel
theorem dX7_init_92 : decode cX7_init 92 = .ok (.iinc 1 1, 3) := by decide +kernel
theorem dX7_init_95 : decode cX7_init 95 = .ok (.goto (-21), 3) := by decide +kernel
theorem dX7_init_98 : decode cX7_init 98 = .ok (.return_, 1) := by decide +kernel
theorem dX7_strip_0 : decode cX7_strip 0 = .ok (.iload_n 1, 1) := by decide +kernel
theorem dX7_strip_1 : decode cX7_strip 1 = .ok (.bipush 6, 2) := by decide +kernel
theorem dX7_strip_3 : decode cX7_strip 3 = .ok (.invokestatic 51, 3) := by decide +kernel
theorem dX7_strip_6 : decode cX7_strip 6 = .ok (.ifCond .ne 5, 3) := by decide +kernel
theorem dX7_strip_9 : decode cX7_strip 9 = .ok (.iconst (-1), 1) := by decide +kernel
theorem dX7_strip_10 : decode cX7_strip 10 = .ok (.ireturn, 1) := by decide +kernel
theorem dX7_strip_11 : decode cX7_strip 11 = .ok (.aload_n 0, 1) := by decide +kernel
theorem dX7_strip_12 : decode cX7_strip 12 = .ok (.getfield 12, 3) := by decide +kernel
theorem dX7_strip_15 : decode cX7_strip 15 = .ok (.getfield 55, 3) := by decide +kernel
theorem dX7_strip_18 : decode cX7_strip 18 = .ok (.bipush 9, 2) := by decide +kernel
theorem dX7_strip_20 : decode cX7_strip 20 = .ok (.if_icmp .lt 6, 3) := by decide +kernel
theorem dX7_strip_23 : decode cX7_strip 23 = .ok (.bipush (-3), 2) := by decide +kernel
theorem dX7_strip_25 : decode cX7_strip 25 = .ok (.ireturn, 1) := by decide +kernel
theorem dX7_strip_26 : decode cX7_strip 26 = .ok (.aload_n 0, 1) := by decide +kernel
theorem dX7_strip_27 : decode cX7_strip 27 = .ok (.getfield 12, 3) := by decide +kernel
theorem dX7_strip_30 : decode cX7_strip 30 = .ok (.iload_n 1, 1) := by decide +kernel
theorem dX7_strip_31 : decode cX7_strip 31 = .ok (.invokevirtual 59, 3) := by decide +kernel
theorem dX7_strip_34 : decode cX7_strip 34 = .ok (.aload_n 0, 1) := by decide +kernel
theorem dX7_strip_35 : decode cX7_strip 35 = .ok (.getfield 12, 3) := by decide +kernel
theorem dX7_strip_38 : decode cX7_strip 38 = .ok (.getfield 55, 3) := by decide +kernel
theorem dX7_strip_41 : decode cX7_strip 41 = .ok (.iconst 1, 1) := by decide +kernel
theorem dX7_strip_42 : decode cX7_strip 42 = .ok (.isub, 1) := by decide +kernel
theorem dX7_strip_43 : decode cX7_strip 43 = .ok (.ireturn, 1) := by decide +kernel
theorem dX7_set_0 : decode cX7_set 0 = .ok (.iload_n 1, 1) := by decide +kernel
theorem dX7_set_1 : decode cX7_set 1 = .ok (.getstatic 63, 3) := by decide +kernel
theorem dX7_set_4 : decode cX7_set 4 = .ok (.arraylength, 1) := by decide +kernel
theorem dX7_set_5 : decode cX7_set 5 = .ok (.invokestatic 51, 3) := by decide +kernel
theorem dX7_set_8 : decode cX7_set 8 = .ok (.ifCond .eq 16, 3) := by decide +kernel
theorem dX7_set_11 : decode cX7_set 11 = .ok (.iload_n 2, 1) := by decide +kernel
theorem dX7_set_12 : decode cX7_set 12 = .ok (.ifCond .lt 12, 3) := by decide +kernel
theorem dX7_set_15 : decode cX7_set 15 = .ok (.iload_n 2, 1) := by decide +kernel
theorem dX7_set_16 : decode cX7_set 16 = .ok (.getstatic 63, 3) := by decide +kernel
theorem dX7_set_19 : decode cX7_set 19 = .ok (.iload_n 1, 1) := by decide +kernel
theorem dX7_set_20 : decode cX7_set 20 = .ok (.iaload, 1) := by decide +kernel
theorem dX7_set_21 : decode cX7_set 21 = .ok (.if_icmp .le 5, 3) := by decide +kernel
theorem dX7_set_24 : decode cX7_set 24 = .ok (.iconst (-1), 1) := by decide +kernel
theorem dX7_set_25 : decode cX7_set 25 = .ok (.ireturn, 1) := by decide +kernel
theorem dX7_set_26 : decode cX7_set 26 = .ok (.aload_n 0, 1) := by decide +kernel
theorem dX7_set_27 : decode cX7_set 27 = .ok (.getfield 12, 3) := by decide +kernel
theorem dX7_set_30 : decode cX7_set 30 = .ok (.getfield 67, 3) := by decide +kernel
theorem dX7_set_33 : decode cX7_set 33 = .ok (.iload_n 1, 1) := by decide +kernel
theorem dX7_set_34 : decode cX7_set 34 = .ok (.iaload, 1) := by decide +kernel
theorem dX7_set_35 : decode cX7_set 35 = .ok (.istore_n 3, 1) := by decide +kernel
theorem dX7_set_36 : decode cX7_set 36 = .ok (.aload_n 0, 1) := by decide +kernel
theorem dX7_set_37 : decode cX7_set 37 = .ok (.getfield 12, 3) := by decide +kernel
theorem dX7_set_40 : decode cX7_set 40 = .ok (.getfield 67, 3) := by decide +kernel
theorem dX7_set_43 : decode cX7_set 43 = .ok (.iload_n 1, 1) := by decide +kernel
theorem dX7_set_44 : decode cX7_set 44 = .ok (.iload_n 2, 1) := by decide +kernel
theorem dX7_set_45 : decode cX7_set 45 = .ok (.iastore, 1) := by decide +kernel
theorem dX7_set_46 : decode cX7_set 46 = .ok (.iload_n 3, 1) := by decide +kernel
theorem dX7_set_47 : decode cX7_set 47 = .ok (.ireturn, 1) := by decide +kernel
theorem dX7_grass_0 : decode cX7_grass 0 = .ok (.aload_n 0, 1) := by decide +kernel
theorem dX7_grass_1 : decode cX7_grass 1 = .ok (.iload_n 1, 1) := by decide +kernel
theorem dX7_grass_2 : decode cX7_grass 2 = .ok (.invokevirtual 70, 3) := by decide +kernel
theorem dX7_grass_5 : decode cX7_grass 5 = .ok (.ifCond .eq 29, 3) := by decide +kernel
theorem dX7_grass_8 : decode cX7_grass 8 = .ok (.iload_n 2, 1) := by decide +kernel
theorem dX7_grass_9 : decode cX7_grass 9 = .ok (.bipush 15, 2) := by decide +kernel
theorem dX7_grass_11 : decode cX7_grass 11 = .ok (.invokestatic 51, 3) := by decide +kernel
theorem dX7_grass_14 : decode cX7_grass 14 = .ok (.ifCond .eq 20, 3) := by decide +kernel
theorem dX7_grass_17 : decode cX7_grass 17 = .ok (.aload_n 0, 1) := by decide +kernel
theorem dX7_grass_18 : decode cX7_grass 18 = .ok (.getfield 12, 3) := by decide +kernel
theorem dX7_grass_21 : decode cX7_grass 21 = .ok (.getfield 74, 3) := by decide +kernel
theorem dX7_grass_24 : decode cX7_grass 24 = .ok (.iload_n 1, 1) := by decide +kernel
theorem dX7_grass_25 : decode cX7_grass 25 = .ok (.aaload, 1) := by decide +kernel
theorem dX7_grass_26 : decode cX7_grass 26 = .ok (.getfield 78, 3) := by decide +kernel
theorem dX7_grass_29 : decode cX7_grass 29 = .ok (.iload_n 2, 1) := by decide +kernel
theorem dX7_grass_30 : decode cX7_grass 30 = .ok (.iaload, 1) := by decide +kernel
theorem dX7_grass_31 : decode cX7_grass 31 = .ok (.goto 4, 3) := by decide +kernel
theorem dX7_grass_34 : decode cX7_grass 34 = .ok (.iconst (-1), 1) := by decide +kernel
theorem dX7_grass_35 : decode cX7_grass 35 = .ok (.ireturn, 1) := by decide +kernel
theorem dX7_letter_0 : decode cX7_letter 0 = .ok (.iload_n 1, 1) := by decide +kernel
theorem dX7_letter_1 : decode cX7_letter 1 = .ok (.bipush 26, 2) := by decide +kernel
theorem dX7_letter_3 : decode cX7_letter 3 = .ok (.invokestatic 51, 3) := by decide +kernel
theorem dX7_letter_6 : decode cX7_letter 6 = .ok (.ifCond .eq 11, 3) := by decide +kernel
theorem dX7_letter_9 : decode cX7_letter 9 = .ok (.getstatic 83, 3) := by decide +kernel
theorem dX7_letter_12 : decode cX7_letter 12 = .ok (.iload_n 1, 1) := by decide +kernel
theorem dX7_letter_13 : decode cX7_letter 13 = .ok (.iaload, 1) := by decide +kernel
theorem dX7_letter_14 : decode cX7_letter 14 = .ok (.goto 4, 3) := by decide +kernel
theorem dX7_letter_17 : decode cX7_letter 17 = .ok (.iconst (-1), 1) := by decide +kernel
theorem dX7_letter_18 : decode cX7_letter 18 = .ok (.ireturn, 1) := by decide +kernel
theorem dX7_seen_0 : decode cX7_seen 0 = .ok (.aload_n 0, 1) := by decide +kernel
theorem dX7_seen_1 : decode cX7_seen 1 = .ok (.iload_n 1, 1) := by decide +kernel
theorem dX7_seen_2 : decode cX7_seen 2 = .ok (.invokevirtual 70, 3) := by decide +kernel
theorem dX7_seen_5 : decode cX7_seen 5 = .ok (.ifCond .eq 14, 3) := by decide +kernel
theorem dX7_seen_8 : decode cX7_seen 8 = .ok (.aload_n 0, 1) := by decide +kernel
theorem dX7_seen_9 : decode cX7_seen 9 = .ok (.getfield 12, 3) := by decide +kernel
theorem dX7_seen_12 : decode cX7_seen 12 = .ok (.iload_n 1, 1) := by decide +kernel
theorem dX7_seen_13 : decode cX7_seen 13 = .ok (.invokevirtual 86, 3) := by decide +kernel
theorem dX7_seen_16 : decode cX7_seen 16 = .ok (.goto 4, 3) := by decide +kernel
theorem dX7_seen_19 : decode cX7_seen 19 = .ok (.iconst (-1), 1) := by decide +kernel
theorem dX7_seen_20 : decode cX7_seen 20 = .ok (.ireturn, 1) := by decide +kernel
theorem dX7_reads_0 : decode cX7_reads 0 = .ok (.aload_n 0, 1) := by decide +kernel
theorem dX7_reads_1 : decode cX7_reads 1 = .ok (.iload_n 1, 1) := by decide +kernel
theorem dX7_reads_2 : decode cX7_reads 2 = .ok (.invokevirtual 70, 3) := by decide +kernel
theorem dX7_reads_5 : decode cX7_reads 5 = .ok (.ifCond .eq 14, 3) := by decide +kernel
theorem dX7_reads_8 : decode cX7_reads 8 = .ok (.aload_n 0, 1) := by decide +kernel
theorem dX7_reads_9 : decode cX7_reads 9 = .ok (.getfield 12, 3) := by decide +kernel
theorem dX7_reads_12 : decode cX7_reads 12 = .ok (.iload_n 1, 1) := by decide +kernel
theorem dX7_reads_13 : decode cX7_reads 13 = .ok (.invokevirtual 90, 3) := by decide +kernel
theorem dX7_reads_16 : decode cX7_reads 16 = .ok (.goto 4, 3) := by decide +kernel
theorem dX7_reads_19 : decode cX7_reads 19 = .ok (.iconst (-1), 1) := by decide +kernel
theorem dX7_reads_20 : decode cX7_reads 20 = .ok (.ireturn, 1) := by decide +kernel
theorem dX7_off_0 : decode cX7_off 0 = .ok (.aload_n 0, 1) := by decide +kernel
theorem dX7_off_1 : decode cX7_off 1 = .ok (.iload_n 1, 1) := by decide +kernel
theorem dX7_off_2 : decode cX7_off 2 = .ok (.invokevirtual 70, 3) := by decide +kernel
theorem dX7_off_5 : decode cX7_off 5 = .ok (.ifCond .eq 20, 3) := by decide +kernel
theorem dX7_off_8 : decode cX7_off 8 = .ok (.aload_n 0, 1) := by decide +kernel
theorem dX7_off_9 : decode cX7_off 9 = .ok (.getfield 12, 3) := by decide +kernel
theorem dX7_off_12 : decode cX7_off 12 = .ok (.iload_n 1, 1) := by decide +kernel
theorem dX7_off_13 : decode cX7_off 13 = .ok (.invokevirtual 86, 3) := by decide +kernel
theorem dX7_off_16 : decode cX7_off 16 = .ok (.invokestatic 93, 3) := by decide +kernel
theorem dX7_off_19 : decode cX7_off 19 = .ok (.bipush 32, 2) := by decide +kernel
theorem dX7_off_21 : decode cX7_off 21 = .ok (.idiv, 1) := by decide +kernel
theorem dX7_off_22 : decode cX7_off 22 = .ok (.goto 4, 3) := by decide +kernel
theorem dX7_off_25 : decode cX7_off 25 = .ok (.iconst (-1), 1) := by decide +kernel
theorem dX7_off_26 : decode cX7_off 26 = .ok (.ireturn, 1) := by decide +kernel
theorem dX7_mow_0 : decode cX7_mow 0 = .ok (.aload_n 0, 1) := by decide +kernel
theorem dX7_mow_1 : decode cX7_mow 1 = .ok (.iload_n 1, 1) := by decide +kernel
theorem dX7_mow_2 : decode cX7_mow 2 = .ok (.invokevirtual 70, 3) := by decide +kernel
theorem dX7_mow_5 : decode cX7_mow 5 = .ok (.ifCond .eq 12, 3) := by decide +kernel
theorem dX7_mow_8 : decode cX7_mow 8 = .ok (.iload_n 2, 1) := by decide +kernel
theorem dX7_mow_9 : decode cX7_mow 9 = .ok (.bipush 26, 2) := by decide +kernel
theorem dX7_mow_11 : decode cX7_mow 11 = .ok (.invokestatic 51, 3) := by decide +kernel
theorem dX7_mow_14 : decode cX7_mow 14 = .ok (.ifCond .ne 5, 3) := by decide +kernel
theorem dX7_mow_17 : decode cX7_mow 17 = .ok (.iconst (-1), 1) := by decide +kernel
theorem dX7_mow_18 : decode cX7_mow 18 = .ok (.ireturn, 1) := by decide +kernel
theorem dX7_mow_19 : decode cX7_mow 19 = .ok (.aload_n 0, 1) := by decide +kernel
theorem dX7_mow_20 : decode cX7_mow 20 = .ok (.getfield 12, 3) := by decide +kernel
theorem dX7_mow_23 : decode cX7_mow 23 = .ok (.getfield 74, 3) := by decide +kernel
theorem dX7_mow_26 : decode cX7_mow 26 = .ok (.iload_n 1, 1) := by decide +kernel
theorem dX7_mow_27 : decode cX7_mow 27 = .ok (.aaload, 1) := by decide +kernel
theorem dX7_mow_28 : decode cX7_mow 28 = .ok (.getstatic 83, 3) := by decide +kernel
theorem dX7_mow_31 : decode cX7_mow 31 = .ok (.iload_n 2, 1) := by decide +kernel
theorem dX7_mow_32 : decode cX7_mow 32 = .ok (.iaload, 1) := by decide +kernel
theorem dX7_mow_33 : decode cX7_mow 33 = .ok (.invokevirtual 96, 3) := by decide +kernel
theorem dX7_mow_36 : decode cX7_mow 36 = .ok (.ifCond .eq 19, 3) := by decide +kernel
theorem dX7_mow_39 : decode cX7_mow 39 = .ok (.aload_n 0, 1) := by decide +kernel
theorem dX7_mow_40 : decode cX7_mow 40 = .ok (.getfield 12, 3) := by decide +kernel
theorem dX7_mow_43 : decode cX7_mow 43 = .ok (.iload_n 1, 1) := by decide +kernel
theorem dX7_mow_44 : decode cX7_mow 44 = .ok (.getstatic 83, 3) := by decide +kernel
theorem dX7_mow_47 : decode cX7_mow 47 = .ok (.iload_n 2, 1) := by decide +kernel
theorem dX7_mow_48 : decode cX7_mow 48 = .ok (.iaload, 1) := by decide +kernel
theorem dX7_mow_49 : decode cX7_mow 49 = .ok (.invokevirtual 99, 3) := by decide +kernel
theorem dX7_mow_52 : decode cX7_mow 52 = .ok (.goto 5, 3) := by decide +kernel
theorem dX7_mow_55 : decode cX7_mow 55 = .ok (.bipush (-2), 2) := by decide +kernel
theorem dX7_mow_57 : decode cX7_mow 57 = .ok (.ireturn, 1) := by decide +kernel
theorem dX7_cut_0 : decode cX7_cut 0 = .ok (.aload_n 0, 1) := by decide +kernel
theorem dX7_cut_1 : decode cX7_cut 1 = .ok (.iload_n 1, 1) := by decide +kernel
theorem dX7_cut_2 : decode cX7_cut 2 = .ok (.invokevirtual 70, 3) := by decide +kernel
theorem dX7_cut_5 : decode cX7_cut 5 = .ok (.ifCond .eq 26, 3) := by decide +kernel
theorem dX7_cut_8 : decode cX7_cut 8 = .ok (.aload_n 0, 1) := by decide +kernel
theorem dX7_cut_9 : decode cX7_cut 9 = .ok (.getfield 12, 3) := by decide +kernel
theorem dX7_cut_12 : decode cX7_cut 12 = .ok (.iload_n 1, 1) := by decide +kernel
theorem dX7_cut_13 : decode cX7_cut 13 = .ok (.aload_n 0, 1) := by decide +kernel
theorem dX7_cut_14 : decode cX7_cut 14 = .ok (.getfield 12, 3) := by decide +kernel
theorem dX7_cut_17 : decode cX7_cut 17 = .ok (.getfield 74, 3) := by decide +kernel
theorem dX7_cut_20 : decode cX7_cut 20 = .ok (.iload_n 1, 1) := by decide +kernel
theorem dX7_cut_21 : decode cX7_cut 21 = .ok (.aaload, 1) := by decide +kernel
theorem dX7_cut_22 : decode cX7_cut 22 = .ok (.invokevirtual 103, 3) := by decide +kernel
theorem dX7_cut_25 : decode cX7_cut 25 = .ok (.invokevirtual 99, 3) := by decide +kernel
theorem dX7_cut_28 : decode cX7_cut 28 = .ok (.goto 4, 3) := by decide +kernel
theorem dX7_cut_31 : decode cX7_cut 31 = .ok (.iconst (-1), 1) := by decide +kernel
theorem dX7_cut_32 : decode cX7_cut 32 = .ok (.ireturn, 1) := by decide +kernel
theorem dX7_fault_0 : decode cX7_fault 0 = .ok (.aload_n 0, 1) := by decide +kernel
theorem dX7_fault_1 : decode cX7_fault 1 = .ok (.iload_n 1, 1) := by decide +kernel
theorem dX7_fault_2 : decode cX7_fault 2 = .ok (.invokevirtual 70, 3) := by decide +kernel
theorem dX7_fault_5 : decode cX7_fault 5 = .ok (.ifCond .eq 20, 3) := by decide +kernel
theorem dX7_fault_8 : decode cX7_fault 8 = .ok (.iload_n 2, 1) := by decide +kernel
theorem dX7_fault_9 : decode cX7_fault 9 = .ok (.bipush 15, 2) := by decide +kernel
theorem dX7_fault_11 : decode cX7_fault 11 = .ok (.invokestatic 51, 3) := by decide +kernel
theorem dX7_fault_14 : decode cX7_fault 14 = .ok (.ifCond .eq 11, 3) := by decide +kernel
theorem dX7_fault_17 : decode cX7_fault 17 = .ok (.iload_n 3, 1) := by decide +kernel
theorem dX7_fault_18 : decode cX7_fault 18 = .ok (.iconst 2, 1) := by decide +kernel
theorem dX7_fault_19 : decode cX7_fault 19 = .ok (.invokestatic 51, 3) := by decide +kernel
theorem dX7_fault_22 : decode cX7_fault 22 = .ok (.ifCond .ne 5, 3) := by decide +kernel
theorem dX7_fault_25 : decode cX7_fault 25 = .ok (.iconst (-1), 1) := by decide +kernel
theorem dX7_fault_26 : decode cX7_fault 26 = .ok (.ireturn, 1) := by decide +kernel
theorem dX7_fault_27 : decode cX7_fault 27 = .ok (.aload_n 0, 1) := by decide +kernel
theorem dX7_fault_28 : decode cX7_fault 28 = .ok (.getfield 12, 3) := by decide +kernel
theorem dX7_fault_31 : decode cX7_fault 31 = .ok (.getfield 74, 3) := by decide +kernel
theorem dX7_fault_34 : decode cX7_fault 34 = .ok (.iload_n 1, 1) := by decide +kernel
theorem dX7_fault_35 : decode cX7_fault 35 = .ok (.aaload, 1) := by decide +kernel
theorem dX7_fault_36 : decode cX7_fault 36 = .ok (.getfield 78, 3) := by decide +kernel
theorem dX7_fault_39 : decode cX7_fault 39 = .ok (.astore 4, 2) := by decide +kernel
theorem dX7_fault_41 : decode cX7_fault 41 = .ok (.aload 4, 2) := by decide +kernel
theorem dX7_fault_43 : decode cX7_fault 43 = .ok (.iload_n 2, 1) := by decide +kernel
theorem dX7_fault_44 : decode cX7_fault 44 = .ok (.iaload, 1) := by decide +kernel
theorem dX7_fault_45 : decode cX7_fault 45 = .ok (.istore 5, 2) := by decide +kernel
theorem dX7_fault_47 : decode cX7_fault 47 = .ok (.aload 4, 2) := by decide +kernel
theorem dX7_fault_49 : decode cX7_fault 49 = .ok (.iload_n 2, 1) := by decide +kernel
theorem dX7_fault_50 : decode cX7_fault 50 = .ok (.iload_n 3, 1) := by decide +kernel
theorem dX7_fault_51 : decode cX7_fault 51 = .ok (.ifCond .ne 7, 3) := by decide +kernel
theorem dX7_fault_54 : decode cX7_fault 54 = .ok (.iconst 0, 1) := by decide +kernel
theorem dX7_fault_55 : decode cX7_fault 55 = .ok (.goto 5, 3) := by decide +kernel
theorem dX7_fault_58 : decode cX7_fault 58 = .ok (.bipush 9, 2) := by decide +kernel
theorem dX7_fault_60 : decode cX7_fault 60 = .ok (.iastore, 1) := by decide +kernel
theorem dX7_fault_61 : decode cX7_fault 61 = .ok (.iload 5, 2) := by decide +kernel
theorem dX7_fault_63 : decode cX7_fault 63 = .ok (.ireturn, 1) := by decide +kernel
theorem dX7_weeks_0 : decode cX7_weeks 0 = .ok (.iload_n 1, 1) := by decide +kernel
theorem dX7_weeks_1 : decode cX7_weeks 1 = .ok (.iconst 1, 1) := by decide +kernel
theorem dX7_weeks_2 : decode cX7_weeks 2 = .ok (.if_icmp .lt 20, 3) := by decide +kernel
theorem dX7_weeks_5 : decode cX7_weeks 5 = .ok (.iload_n 1, 1) := by decide +kernel
theorem dX7_weeks_6 : decode cX7_weeks 6 = .ok (.bipush 30, 2) := by decide +kernel
theorem dX7_weeks_8 : decode cX7_weeks 8 = .ok (.if_icmp .gt 14, 3) := by decide +kernel
theorem dX7_weeks_11 : decode cX7_weeks 11 = .ok (.aload_n 0, 1) := by decide +kernel
theorem dX7_weeks_12 : decode cX7_weeks 12 = .ok (.getfield 12, 3) := by decide +kernel
theorem dX7_weeks_15 : decode cX7_weeks 15 = .ok (.iload_n 1, 1) := by decide +kernel
theorem dX7_weeks_16 : decode cX7_weeks 16 = .ok (.invokevirtual 107, 3) := by decide +kernel
theorem dX7_weeks_19 : decode cX7_weeks 19 = .ok (.goto 4, 3) := by decide +kernel
theorem dX7_weeks_22 : decode cX7_weeks 22 = .ok (.iconst (-1), 1) := by decide +kernel
theorem dX7_weeks_23 : decode cX7_weeks 23 = .ok (.ireturn, 1) := by decide +kernel
theorem dX7_hay_0 : decode cX7_hay 0 = .ok (.iload_n 1, 1) := by decide +kernel
theorem dX7_hay_1 : decode cX7_hay 1 = .ok (.bipush 6, 2) := by decide +kernel
theorem dX7_hay_3 : decode cX7_hay 3 = .ok (.invokestatic 51, 3) := by decide +kernel
theorem dX7_hay_6 : decode cX7_hay 6 = .ok (.ifCond .eq 15, 3) := by decide +kernel
theorem dX7_hay_9 : decode cX7_hay 9 = .ok (.aload_n 0, 1) := by decide +kernel
theorem dX7_hay_10 : decode cX7_hay 10 = .ok (.getfield 12, 3) := by decide +kernel
theorem dX7_hay_13 : decode cX7_hay 13 = .ok (.getfield 110, 3) := by decide +kernel
theorem dX7_hay_16 : decode cX7_hay 16 = .ok (.iload_n 1, 1) := by decide +kernel
theorem dX7_hay_17 : decode cX7_hay 17 = .ok (.iaload, 1) := by decide +kernel
theorem dX7_hay_18 : decode cX7_hay 18 = .ok (.goto 4, 3) := by decide +kernel
theorem dX7_hay_21 : decode cX7_hay 21 = .ok (.iconst (-1), 1) := by decide +kernel
theorem dX7_hay_22 : decode cX7_hay 22 = .ok (.ireturn, 1) := by decide +kernel
theorem dX7_type_0 : decode cX7_type 0 = .ok (.iload_n 3, 1) := by decide +kernel
theorem dX7_type_1 : decode cX7_type 1 = .ok (.iconst 1, 1) := by decide +kernel
theorem dX7_type_2 : decode cX7_type 2 = .ok (.if_icmp .lt 21, 3) := by decide +kernel
theorem dX7_type_5 : decode cX7_type 5 = .ok (.iload_n 3, 1) := by decide +kernel
theorem dX7_type_6 : decode cX7_type 6 = .ok (.bipush 8, 2) := by decide +kernel
theorem dX7_type_8 : decode cX7_type 8 = .ok (.if_icmp .gt 15, 3) := by decide +kernel
theorem dX7_type_11 : decode cX7_type 11 = .ok (.aload_n 0, 1) := by decide +kernel
theorem dX7_type_12 : decode cX7_type 12 = .ok (.getfield 40, 3) := by decide +kernel
theorem dX7_type_15 : decode cX7_type 15 = .ok (.lload_n 1, 1) := by decide +kernel
theorem dX7_type_16 : decode cX7_type 16 = .ok (.iload_n 3, 1) := by decide +kernel
theorem dX7_type_17 : decode cX7_type 17 = .ok (.invokevirtual 113, 3) := by decide +kernel
theorem dX7_type_20 : decode cX7_type 20 = .ok (.goto 4, 3) := by decide +kernel
theorem dX7_type_23 : decode cX7_type 23 = .ok (.iconst (-1), 1) := by decide +kernel
theorem dX7_type_24 : decode cX7_type 24 = .ok (.ireturn, 1) := by decide +kernel
theorem dX7_strips_0 : decode cX7_strips 0 = .ok (.aload_n 0, 1) := by decide +kernel
theorem dX7_strips_1 : decode cX7_strips 1 = .ok (.getfield 40, 3) := by decide +kernel
theorem dX7_strips_4 : decode cX7_strips 4 = .ok (.invokevirtual 117, 3) := by decide +kernel
theorem dX7_strips_7 : decode cX7_strips 7 = .ok (.istore_n 1, 1) := by decide +kernel
theorem dX7_strips_8 : decode cX7_strips 8 = .ok (.aload_n 0, 1) := by decide +kernel
theorem dX7_strips_9 : decode cX7_strips 9 = .ok (.getfield 40, 3) := by decide +kernel
theorem dX7_strips_12 : decode cX7_strips 12 = .ok (.iconst 0, 1) := by decide +kernel
theorem dX7_strips_13 : decode cX7_strips 13 = .ok (.putfield 120, 3) := by decide +kernel
theorem dX7_strips_16 : decode cX7_strips 16 = .ok (.iload_n 1, 1) := by decide +kernel
theorem dX7_strips_17 : decode cX7_strips 17 = .ok (.ifCond .le 18, 3) := by decide +kernel
theorem dX7_strips_20 : decode cX7_strips 20 = .ok (.aload_n 0, 1) := by decide +kernel
theorem dX7_strips_21 : decode cX7_strips 21 = .ok (.getfield 12, 3) := by decide +kernel
theorem dX7_strips_24 : decode cX7_strips 24 = .ok (.aload_n 0, 1) := by decide +kernel
theorem dX7_strips_25 : decode cX7_strips 25 = .ok (.getfield 40, 3) := by decide +kernel
theorem dX7_strips_28 : decode cX7_strips 28 = .ok (.getfield 123, 3) := by decide +kernel
theorem dX7_strips_31 : decode cX7_strips 31 = .ok (.iload_n 1, 1) := by decide +kernel
theorem dX7_strips_32 : decode cX7_strips 32 = .ok (.invokevirtual 126, 3) := by decide +kernel
theorem dX7_strips_35 : decode cX7_strips 35 = .ok (.iload_n 1, 1) := by decide +kernel
theorem dX7_strips_36 : decode cX7_strips 36 = .ok (.ireturn, 1) := by decide +kernel
theorem dX7_words_0 : decode cX7_words 0 = .ok (.aload_n 0, 1) := by decide +kernel
theorem dX7_words_1 : decode cX7_words 1 = .ok (.getfield 40, 3) := by decide +kernel
theorem dX7_words_4 : decode cX7_words 4 = .ok (.invokevirtual 130, 3) := by decide +kernel
theorem dX7_words_7 : decode cX7_words 7 = .ok (.istore_n 1, 1) := by decide +kernel
theorem dX7_words_8 : decode cX7_words 8 = .ok (.aload_n 0, 1) := by decide +kernel
theorem dX7_words_9 : decode cX7_words 9 = .ok (.getfield 40, 3) := by decide +kernel
theorem dX7_words_12 : decode cX7_words 12 = .ok (.iconst 0, 1) := by decide +kernel
theorem dX7_words_13 : decode cX7_words 13 = .ok (.putfield 120, 3) := by decide +kernel
theorem dX7_words_16 : decode cX7_words 16 = .ok (.iload_n 1, 1) := by decide +kernel
theorem dX7_words_17 : decode cX7_words 17 = .ok (.bipush 10, 2) := by decide +kernel
theorem dX7_words_19 : decode cX7_words 19 = .ok (.aload_n 0, 1) := by decide +kernel
theorem dX7_words_20 : decode cX7_words 20 = .ok (.getfield 12, 3) := by decide +kernel
theorem dX7_words_23 : decode cX7_words 23 = .ok (.getfield 133, 3) := by decide +kernel
theorem dX7_words_26 : decode cX7_words 26 = .ok (.isub, 1) := by decide +kernel
theorem dX7_words_27 : decode cX7_words 27 = .ok (.if_icmp .le 6, 3) := by decide +kernel
theorem dX7_words_30 : decode cX7_words 30 = .ok (.bipush (-3), 2) := by decide +kernel
theorem dX7_words_32 : decode cX7_words 32 = .ok (.ireturn, 1) := by decide +kernel
theorem dX7_words_33 : decode cX7_words 33 = .ok (.iconst 0, 1) := by decide +kernel
theorem dX7_words_34 : decode cX7_words 34 = .ok (.istore_n 2, 1) := by decide +kernel
theorem dX7_words_35 : decode cX7_words 35 = .ok (.iload_n 2, 1) := by decide +kernel
theorem dX7_words_36 : decode cX7_words 36 = .ok (.iload_n 1, 1) := by decide +kernel
theorem dX7_words_37 : decode cX7_words 37 = .ok (.if_icmp .ge 25, 3) := by decide +kernel
theorem dX7_words_40 : decode cX7_words 40 = .ok (.aload_n 0, 1) := by decide +kernel
theorem dX7_words_41 : decode cX7_words 41 = .ok (.getfield 12, 3) := by decide +kernel
theorem dX7_words_44 : decode cX7_words 44 = .ok (.aload_n 0, 1) := by decide +kernel
theorem dX7_words_45 : decode cX7_words 45 = .ok (.getfield 40, 3) := by decide +kernel
theorem dX7_words_48 : decode cX7_words 48 = .ok (.getfield 136, 3) := by decide +kernel
theorem dX7_words_51 : decode cX7_words 51 = .ok (.iload_n 2, 1) := by decide +kernel
theorem dX7_words_52 : decode cX7_words 52 = .ok (.aaload, 1) := by decide +kernel
theorem dX7_words_53 : decode cX7_words 53 = .ok (.invokevirtual 140, 3) := by decide +kernel
theorem dX7_words_56 : decode cX7_words 56 = .ok (.iinc 2 1, 3) := by decide +kernel
theorem dX7_words_59 : decode cX7_words 59 = .ok (.goto (-24), 3) := by decide +kernel
theorem dX7_words_62 : decode cX7_words 62 = .ok (.iload_n 1, 1) := by decide +kernel
theorem dX7_words_63 : decode cX7_words 63 = .ok (.ireturn, 1) := by decide +kernel
theorem dX7_told_0 : decode cX7_told 0 = .ok (.aload_n 0, 1) := by decide +kernel
theorem dX7_told_1 : decode cX7_told 1 = .ok (.iload_n 1, 1) := by decide +kernel
theorem dX7_told_2 : decode cX7_told 2 = .ok (.invokevirtual 144, 3) := by decide +kernel
theorem dX7_told_5 : decode cX7_told 5 = .ok (.ifCond .eq 9, 3) := by decide +kernel
theorem dX7_told_8 : decode cX7_told 8 = .ok (.iload_n 2, 1) := by decide +kernel
theorem dX7_told_9 : decode cX7_told 9 = .ok (.bipush (-2), 2) := by decide +kernel
theorem dX7_told_11 : decode cX7_told 11 = .ok (.if_icmp .ge 5, 3) := by decide +kernel
theorem dX7_told_14 : decode cX7_told 14 = .ok (.iconst (-1), 1) := by decide +kernel
theorem dX7_told_15 : decode cX7_told 15 = .ok (.ireturn, 1) := by decide +kernel
theorem dX7_told_16 : decode cX7_told 16 = .ok (.aload_n 0, 1) := by decide +kernel
theorem dX7_told_17 : decode cX7_told 17 = .ok (.getfield 12, 3) := by decide +kernel
theorem dX7_told_20 : decode cX7_told 20 = .ok (.getfield 147, 3) := by decide +kernel
theorem dX7_told_23 : decode cX7_told 23 = .ok (.iload_n 1, 1) := by decide +kernel
theorem dX7_told_24 : decode cX7_told 24 = .ok (.aaload, 1) := by decide +kernel
theorem dX7_told_25 : decode cX7_told 25 = .ok (.astore_n 3, 1) := by decide +kernel
theorem dX7_told_26 : decode cX7_told 26 = .ok (.iload_n 2, 1) := by decide +kernel
theorem dX7_told_27 : decode cX7_told 27 = .ok (.bipush (-2), 2) := by decide +kernel
theorem dX7_told_29 : decode cX7_told 29 = .ok (.if_icmp .ne 8, 3) := by decide +kernel
theorem dX7_told_32 : decode cX7_told 32 = .ok (.aload_n 3, 1) := by decide +kernel
theorem dX7_told_33 : decode cX7_told 33 = .ok (.getfield 150, 3) := by decide +kernel
theorem dX7_told_36 : decode cX7_told 36 = .ok (.ireturn, 1) := by decide +kernel
theorem dX7_told_37 : decode cX7_told 37 = .ok (.iload_n 2, 1) := by decide +kernel
theorem dX7_told_38 : decode cX7_told 38 = .ok (.iconst (-1), 1) := by decide +kernel
theorem dX7_told_39 : decode cX7_told 39 = .ok (.if_icmp .ne 8, 3) := by decide +kernel
theorem dX7_told_42 : decode cX7_told 42 = .ok (.aload_n 3, 1) := by decide +kernel
theorem dX7_told_43 : decode cX7_told 43 = .ok (.getfield 155, 3) := by decide +kernel
theorem dX7_told_46 : decode cX7_told 46 = .ok (.ireturn, 1) := by decide +kernel
theorem dX7_told_47 : decode cX7_told 47 = .ok (.iload_n 2, 1) := by decide +kernel
theorem dX7_told_48 : decode cX7_told 48 = .ok (.aload_n 3, 1) := by decide +kernel
theorem dX7_told_49 : decode cX7_told 49 = .ok (.getfield 155, 3) := by decide +kernel
theorem dX7_told_52 : decode cX7_told 52 = .ok (.if_icmp .ge 12, 3) := by decide +kernel
theorem dX7_told_55 : decode cX7_told 55 = .ok (.aload_n 3, 1) := by decide +kernel
theorem dX7_told_56 : decode cX7_told 56 = .ok (.getfield 156, 3) := by decide +kernel
theorem dX7_told_59 : decode cX7_told 59 = .ok (.iload_n 2, 1) := by decide +kernel
theorem dX7_told_60 : decode cX7_told 60 = .ok (.iaload, 1) := by decide +kernel
theorem dX7_told_61 : decode cX7_told 61 = .ok (.goto 5, 3) := by decide +kernel
theorem dX7_told_64 : decode cX7_told 64 = .ok (.bipush (-4), 2) := by decide +kernel
theorem dX7_told_66 : decode cX7_told 66 = .ok (.ireturn, 1) := by decide +kernel
theorem dX7_pay_0 : decode cX7_pay 0 = .ok (.aload_n 0, 1) := by decide +kernel
theorem dX7_pay_1 : decode cX7_pay 1 = .ok (.iload_n 1, 1) := by decide +kernel
theorem dX7_pay_2 : decode cX7_pay 2 = .ok (.invokevirtual 144, 3) := by decide +kernel
theorem dX7_pay_5 : decode cX7_pay 5 = .ok (.ifCond .eq 13, 3) := by decide +kernel
theorem dX7_pay_8 : decode cX7_pay 8 = .ok (.iload_n 2, 1) := by decide +kernel
theorem dX7_pay_9 : decode cX7_pay 9 = .ok (.ifCond .lt 9, 3) := by decide +kernel
theorem dX7_pay_12 : decode cX7_pay 12 = .ok (.iload_n 2, 1) := by decide +kernel
theorem dX7_pay_13 : decode cX7_pay 13 = .ok (.bipush 99, 2) := by decide +kernel
theorem dX7_pay_15 : decode cX7_pay 15 = .ok (.if_icmp .le 5, 3) := by decide +kernel
theorem dX7_pay_18 : decode cX7_pay 18 = .ok (.iconst (-1), 1) := by decide +kernel
theorem dX7_pay_19 : decode cX7_pay 19 = .ok (.ireturn, 1) := by decide +kernel
theorem dX7_pay_20 : decode cX7_pay 20 = .ok (.aload_n 0, 1) := by decide +kernel
theorem dX7_pay_21 : decode cX7_pay 21 = .ok (.getfield 12, 3) := by decide +kernel
theorem dX7_pay_24 : decode cX7_pay 24 = .ok (.getfield 147, 3) := by decide +kernel
theorem dX7_pay_27 : decode cX7_pay 27 = .ok (.iload_n 1, 1) := by decide +kernel
theorem dX7_pay_28 : decode cX7_pay 28 = .ok (.aaload, 1) := by decide +kernel
theorem dX7_pay_29 : decode cX7_pay 29 = .ok (.getfield 150, 3) := by decide +kernel
theorem dX7_pay_32 : decode cX7_pay 32 = .ok (.istore_n 3, 1) := by decide +kernel
theorem dX7_pay_33 : decode cX7_pay 33 = .ok (.aload_n 0, 1) := by decide +kernel
theorem dX7_pay_34 : decode cX7_pay 34 = .ok (.getfield 12, 3) := by decide +kernel
theorem dX7_pay_37 : decode cX7_pay 37 = .ok (.getfield 147, 3) := by decide +kernel
theorem dX7_pay_40 : decode cX7_pay 40 = .ok (.iload_n 1, 1) := by decide +kernel
theorem dX7_pay_41 : decode cX7_pay 41 = .ok (.aaload, 1) := by decide +kernel
theorem dX7_pay_42 : decode cX7_pay 42 = .ok (.iload_n 2, 1) := by decide +kernel
theorem dX7_pay_43 : decode cX7_pay 43 = .ok (.putfield 150, 3) := by decide +kernel
theorem dX7_pay_46 : decode cX7_pay 46 = .ok (.iload_n 3, 1) := by decide +kernel
theorem dX7_pay_47 : decode cX7_pay 47 = .ok (.ireturn, 1) := by decide +kernel
theorem dX7_feud_0 : decode cX7_feud 0 = .ok (.iload_n 1, 1) := by decide +kernel
theorem dX7_feud_1 : decode cX7_feud 1 = .ok (.bipush 6, 2) := by decide +kernel
theorem dX7_feud_3 : decode cX7_feud 3 = .ok (.invokestatic 51, 3) := by decide +kernel
theorem dX7_feud_6 : decode cX7_feud 6 = .ok (.ifCond .eq 17, 3) := by decide +kernel
theorem dX7_feud_9 : decode cX7_feud 9 = .ok (.iload_n 2, 1) := by decide +kernel
theorem dX7_feud_10 : decode cX7_feud 10 = .ok (.bipush 6, 2) := by decide +kernel
theorem dX7_feud_12 : decode cX7_feud 12 = .ok (.invokestatic 51, 3) := by decide +kernel
theorem dX7_feud_15 : decode cX7_feud 15 = .ok (.ifCond .eq 8, 3) := by decide +kernel
theorem dX7_feud_18 : decode cX7_feud 18 = .ok (.iload_n 1, 1) := by decide +kernel
theorem dX7_feud_19 : decode cX7_feud 19 = .ok (.iload_n 2, 1) := by decide +kernel
theorem dX7_feud_20 : decode cX7_feud 20 = .ok (.if_icmp .ne 5, 3) := by decide +kernel
theorem dX7_feud_23 : decode cX7_feud 23 = .ok (.iconst (-1), 1) := by decide +kernel
theorem dX7_feud_24 : decode cX7_feud 24 = .ok (.ireturn, 1) := by decide +kernel
theorem dX7_feud_25 : decode cX7_feud 25 = .ok (.aload_n 0, 1) := by decide +kernel
theorem dX7_feud_26 : decode cX7_feud 26 = .ok (.getfield 12, 3) := by decide +kernel
theorem dX7_feud_29 : decode cX7_feud 29 = .ok (.getfield 159, 3) := by decide +kernel
theorem dX7_feud_32 : decode cX7_feud 32 = .ok (.iload_n 1, 1) := by decide +kernel
theorem dX7_feud_33 : decode cX7_feud 33 = .ok (.iaload, 1) := by decide +kernel
theorem dX7_feud_34 : decode cX7_feud 34 = .ok (.iload_n 2, 1) := by decide +kernel
theorem dX7_feud_35 : decode cX7_feud 35 = .ok (.ishr, 1) := by decide +kernel
theorem dX7_feud_36 : decode cX7_feud 36 = .ok (.iconst 1, 1) := by decide +kernel
theorem dX7_feud_37 : decode cX7_feud 37 = .ok (.iand, 1) := by decide +kernel
theorem dX7_feud_38 : decode cX7_feud 38 = .ok (.istore 4, 2) := by decide +kernel
theorem dX7_feud_40 : decode cX7_feud 40 = .ok (.aload_n 0, 1) := by decide +kernel
theorem dX7_feud_41 : decode cX7_feud 41 = .ok (.getfield 12, 3) := by decide +kernel
theorem dX7_feud_44 : decode cX7_feud 44 = .ok (.iload_n 1, 1) := by decide +kernel
theorem dX7_feud_45 : decode cX7_feud 45 = .ok (.iload_n 2, 1) := by decide +kernel
theorem dX7_feud_46 : decode cX7_feud 46 = .ok (.iload_n 3, 1) := by decide +kernel
theorem dX7_feud_47 : decode cX7_feud 47 = .ok (.invokevirtual 162, 3) := by decide +kernel
theorem dX7_feud_50 : decode cX7_feud 50 = .ok (.aload_n 0, 1) := by decide +kernel
theorem dX7_feud_51 : decode cX7_feud 51 = .ok (.getfield 12, 3) := by decide +kernel
theorem dX7_feud_54 : decode cX7_feud 54 = .ok (.iload_n 2, 1) := by decide +kernel
theorem dX7_feud_55 : decode cX7_feud 55 = .ok (.iload_n 1, 1) := by decide +kernel
theorem dX7_feud_56 : decode cX7_feud 56 = .ok (.iload_n 3, 1) := by decide +kernel
theorem dX7_feud_57 : decode cX7_feud 57 = .ok (.invokevirtual 162, 3) := by decide +kernel
theorem dX7_feud_60 : decode cX7_feud 60 = .ok (.iload 4, 2) := by decide +kernel
theorem dX7_feud_62 : decode cX7_feud 62 = .ok (.ireturn, 1) := by decide +kernel
theorem dX7_count_0 : decode cX7_count 0 = .ok (.iload_n 1, 1) := by decide +kernel
theorem dX7_count_1 : decode cX7_count 1 = .ok (.tableswitch 63 0 3 #[31, 39, 47, 55], 31) := by decide +kernel
theorem dX7_count_32 : decode cX7_count 32 = .ok (.aload_n 0, 1) := by decide +kernel
theorem dX7_count_33 : decode cX7_count 33 = .ok (.getfield 12, 3) := by decide +kernel
theorem dX7_count_36 : decode cX7_count 36 = .ok (.getfield 55, 3) := by decide +kernel
theorem dX7_count_39 : decode cX7_count 39 = .ok (.ireturn, 1) := by decide +kernel
theorem dX7_count_40 : decode cX7_count 40 = .ok (.aload_n 0, 1) := by decide +kernel
theorem dX7_count_41 : decode cX7_count 41 = .ok (.getfield 12, 3) := by decide +kernel
theorem dX7_count_44 : decode cX7_count 44 = .ok (.getfield 133, 3) := by decide +kernel
theorem dX7_count_47 : decode cX7_count 47 = .ok (.ireturn, 1) := by decide +kernel
theorem dX7_count_48 : decode cX7_count 48 = .ok (.aload_n 0, 1) := by decide +kernel
theorem dX7_count_49 : decode cX7_count 49 = .ok (.getfield 12, 3) := by decide +kernel
theorem dX7_count_52 : decode cX7_count 52 = .ok (.invokevirtual 166, 3) := by decide +kernel
theorem dX7_count_55 : decode cX7_count 55 = .ok (.ireturn, 1) := by decide +kernel
theorem dX7_count_56 : decode cX7_count 56 = .ok (.aload_n 0, 1) := by decide +kernel
theorem dX7_count_57 : decode cX7_count 57 = .ok (.getfield 12, 3) := by decide +kernel
theorem dX7_count_60 : decode cX7_count 60 = .ok (.invokevirtual 169, 3) := by decide +kernel
theorem dX7_count_63 : decode cX7_count 63 = .ok (.ireturn, 1) := by decide +kernel
theorem dX7_count_64 : decode cX7_count 64 = .ok (.iconst (-1), 1) := by decide +kernel
theorem dX7_count_65 : decode cX7_count 65 = .ok (.ireturn, 1) := by decide +kernel
theorem dX7_written_0 : decode cX7_written 0 = .ok (.aload_n 0, 1) := by decide +kernel
theorem dX7_written_1 : decode cX7_written 1 = .ok (.iload_n 1, 1) := by decide +kernel
theorem dX7_written_2 : decode cX7_written 2 = .ok (.invokevirtual 144, 3) := by decide +kernel
theorem dX7_written_5 : decode cX7_written 5 = .ok (.ifCond .eq 11, 3) := by decide +kernel
theorem dX7_written_8 : decode cX7_written 8 = .ok (.aload_n 0, 1) := by decide +kernel
theorem dX7_written_9 : decode cX7_written 9 = .ok (.iload_n 2, 1) := by decide +kernel
theorem dX7_written_10 : decode cX7_written 10 = .ok (.invokevirtual 70, 3) := by decide +kernel
theorem dX7_written_13 : decode cX7_written 13 = .ok (.ifCond .ne 5, 3) := by decide +kernel
theorem dX7_written_16 : decode cX7_written 16 = .ok (.iconst (-1), 1) := by decide +kernel
theorem dX7_written_17 : decode cX7_written 17 = .ok (.ireturn, 1) := by decide +kernel
theorem dX7_written_18 : decode cX7_written 18 = .ok (.aload_n 0, 1) := by decide +kernel
theorem dX7_written_19 : decode cX7_written 19 = .ok (.getfield 12, 3) := by decide +kernel
theorem dX7_written_22 : decode cX7_written 22 = .ok (.aload_n 0, 1) := by decide +kernel
theorem dX7_written_23 : decode cX7_written 23 = .ok (.getfield 12, 3) := by decide +kernel
theorem dX7_written_26 : decode cX7_written 26 = .ok (.getfield 147, 3) := by decide +kernel
theorem dX7_written_29 : decode cX7_written 29 = .ok (.iload_n 1, 1) := by decide +kernel
theorem dX7_written_30 : decode cX7_written 30 = .ok (.aaload, 1) := by decide +kernel
theorem dX7_written_31 : decode cX7_written 31 = .ok (.iload_n 2, 1) := by decide +kernel
theorem dX7_written_32 : decode cX7_written 32 = .ok (.iconst 0, 1) := by decide +kernel
theorem dX7_written_33 : decode cX7_written 33 = .ok (.invokevirtual 172, 3) := by decide +kernel
theorem dX7_written_36 : decode cX7_written 36 = .ok (.ifCond .eq 7, 3) := by decide +kernel
theorem dX7_written_39 : decode cX7_written 39 = .ok (.iconst 1, 1) := by decide +kernel
theorem dX7_written_40 : decode cX7_written 40 = .ok (.goto 4, 3) := by decide +kernel
theorem dX7_written_43 : decode cX7_written 43 = .ok (.iconst 0, 1) := by decide +kernel
theorem dX7_written_44 : decode cX7_written 44 = .ok (.ireturn, 1) := by decide +kernel
theorem dX7_read_0 : decode cX7_read 0 = .ok (.iload_n 1, 1) := by decide +kernel
theorem dX7_read_1 : decode cX7_read 1 = .ok (.invokestatic 176, 3) := by decide +kernel
theorem dX7_read_4 : decode cX7_read 4 = .ok (.ifCond .ne 5, 3) := by decide +kernel
theorem dX7_read_7 : decode cX7_read 7 = .ok (.iconst (-1), 1) := by decide +kernel
theorem dX7_read_8 : decode cX7_read 8 = .ok (.ireturn, 1) := by decide +kernel
theorem dX7_read_9 : decode cX7_read 9 = .ok (.aload_n 0, 1) := by decide +kernel
theorem dX7_read_10 : decode cX7_read 10 = .ok (.getfield 26, 3) := by decide +kernel
theorem dX7_read_13 : decode cX7_read 13 = .ok (.aload_n 0, 1) := by decide +kernel
theorem dX7_read_14 : decode cX7_read 14 = .ok (.getfield 12, 3) := by decide +kernel
theorem dX7_read_17 : decode cX7_read 17 = .ok (.invokevirtual 179, 3) := by decide +kernel
theorem dX7_read_20 : decode cX7_read 20 = .ok (.aload_n 0, 1) := by decide +kernel
theorem dX7_read_21 : decode cX7_read 21 = .ok (.getfield 26, 3) := by decide +kernel
theorem dX7_read_24 : decode cX7_read 24 = .ok (.aload_n 0, 1) := by decide +kernel
theorem dX7_read_25 : decode cX7_read 25 = .ok (.getfield 12, 3) := by decide +kernel
theorem dX7_read_28 : decode cX7_read 28 = .ok (.invokevirtual 183, 3) := by decide +kernel
theorem dX7_read_31 : decode cX7_read 31 = .ok (.aload_n 0, 1) := by decide +kernel
theorem dX7_read_32 : decode cX7_read 32 = .ok (.getfield 26, 3) := by decide +kernel
theorem dX7_read_35 : decode cX7_read 35 = .ok (.iload_n 1, 1) := by decide +kernel
theorem dX7_read_36 : decode cX7_read 36 = .ok (.invokevirtual 186, 3) := by decide +kernel
theorem dX7_read_39 : decode cX7_read 39 = .ok (.ireturn, 1) := by decide +kernel
theorem dX7_nearest_0 : decode cX7_nearest 0 = .ok (.aload_n 0, 1) := by decide +kernel
theorem dX7_nearest_1 : decode cX7_nearest 1 = .ok (.iload_n 1, 1) := by decide +kernel
theorem dX7_nearest_2 : decode cX7_nearest 2 = .ok (.invokevirtual 70, 3) := by decide +kernel
theorem dX7_nearest_5 : decode cX7_nearest 5 = .ok (.ifCond .eq 11, 3) := by decide +kernel
theorem dX7_nearest_8 : decode cX7_nearest 8 = .ok (.iload_n 2, 1) := by decide +kernel
theorem dX7_nearest_9 : decode cX7_nearest 9 = .ok (.iconst 2, 1) := by decide +kernel
theorem dX7_nearest_10 : decode cX7_nearest 10 = .ok (.invokestatic 51, 3) := by decide +kernel
theorem dX7_nearest_13 : decode cX7_nearest 13 = .ok (.ifCond .ne 5, 3) := by decide +kernel
theorem dX7_nearest_16 : decode cX7_nearest 16 = .ok (.iconst (-1), 1) := by decide +kernel
theorem dX7_nearest_17 : decode cX7_nearest 17 = .ok (.ireturn, 1) := by decide +kernel
theorem dX7_nearest_18 : decode cX7_nearest 18 = .ok (.bipush (-4), 2) := by decide +kernel
theorem dX7_nearest_20 : decode cX7_nearest 20 = .ok (.istore_n 3, 1) := by decide +kernel
theorem dX7_nearest_21 : decode cX7_nearest 21 = .ok (.bipush (-4), 2) := by decide +kernel
theorem dX7_nearest_23 : decode cX7_nearest 23 = .ok (.istore 4, 2) := by decide +kernel
theorem dX7_nearest_25 : decode cX7_nearest 25 = .ok (.iconst 0, 1) := by decide +kernel
theorem dX7_nearest_26 : decode cX7_nearest 26 = .ok (.istore 5, 2) := by decide +kernel
theorem dX7_nearest_28 : decode cX7_nearest 28 = .ok (.iload 5, 2) := by decide +kernel
theorem dX7_nearest_30 : decode cX7_nearest 30 = .ok (.aload_n 0, 1) := by decide +kernel
theorem dX7_nearest_31 : decode cX7_nearest 31 = .ok (.getfield 12, 3) := by decide +kernel
theorem dX7_nearest_34 : decode cX7_nearest 34 = .ok (.getfield 133, 3) := by decide +kernel
theorem dX7_nearest_37 : decode cX7_nearest 37 = .ok (.if_icmp .ge 70, 3) := by decide +kernel
theorem dX7_nearest_40 : decode cX7_nearest 40 = .ok (.aload_n 0, 1) := by decide +kernel
theorem dX7_nearest_41 : decode cX7_nearest 41 = .ok (.getfield 12, 3) := by decide +kernel
theorem dX7_nearest_44 : decode cX7_nearest 44 = .ok (.aload_n 0, 1) := by decide +kernel
theorem dX7_nearest_45 : decode cX7_nearest 45 = .ok (.getfield 12, 3) := by decide +kernel
theorem dX7_nearest_48 : decode cX7_nearest 48 = .ok (.getfield 147, 3) := by decide +kernel
theorem dX7_nearest_51 : decode cX7_nearest 51 = .ok (.iload 5, 2) := by decide +kernel
theorem dX7_nearest_53 : decode cX7_nearest 53 = .ok (.aaload, 1) := by decide +kernel
theorem dX7_nearest_54 : decode cX7_nearest 54 = .ok (.iload_n 1, 1) := by decide +kernel
theorem dX7_nearest_55 : decode cX7_nearest 55 = .ok (.invokevirtual 189, 3) := by decide +kernel
theorem dX7_nearest_58 : decode cX7_nearest 58 = .ok (.ifCond .eq 43, 3) := by decide +kernel
theorem dX7_nearest_61 : decode cX7_nearest 61 = .ok (.aload_n 0, 1) := by decide +kernel
theorem dX7_nearest_62 : decode cX7_nearest 62 = .ok (.getfield 12, 3) := by decide +kernel
theorem dX7_nearest_65 : decode cX7_nearest 65 = .ok (.aload_n 0, 1) := by decide +kernel
theorem dX7_nearest_66 : decode cX7_nearest 66 = .ok (.getfield 12, 3) := by decide +kernel
theorem dX7_nearest_69 : decode cX7_nearest 69 = .ok (.getfield 147, 3) := by decide +kernel
theorem dX7_nearest_72 : decode cX7_nearest 72 = .ok (.iload 5, 2) := by decide +kernel
theorem dX7_nearest_74 : decode cX7_nearest 74 = .ok (.aaload, 1) := by decide +kernel
theorem dX7_nearest_75 : decode cX7_nearest 75 = .ok (.iload_n 1, 1) := by decide +kernel
theorem dX7_nearest_76 : decode cX7_nearest 76 = .ok (.invokevirtual 193, 3) := by decide +kernel
theorem dX7_nearest_79 : decode cX7_nearest 79 = .ok (.istore 6, 2) := by decide +kernel
theorem dX7_nearest_81 : decode cX7_nearest 81 = .ok (.iload_n 3, 1) := by decide +kernel
theorem dX7_nearest_82 : decode cX7_nearest 82 = .ok (.bipush (-4), 2) := by decide +kernel
theorem dX7_nearest_84 : decode cX7_nearest 84 = .ok (.if_icmp .eq 10, 3) := by decide +kernel
theorem dX7_nearest_87 : decode cX7_nearest 87 = .ok (.iload 6, 2) := by decide +kernel
theorem dX7_nearest_89 : decode cX7_nearest 89 = .ok (.iload 4, 2) := by decide +kernel
theorem dX7_nearest_91 : decode cX7_nearest 91 = .ok (.if_icmp .ge 10, 3) := by decide +kernel
theorem dX7_nearest_94 : decode cX7_nearest 94 = .ok (.iload 5, 2) := by decide +kernel
theorem dX7_nearest_96 : decode cX7_nearest 96 = .ok (.istore_n 3, 1) := by decide +kernel
theorem dX7_nearest_97 : decode cX7_nearest 97 = .ok (.iload 6, 2) := by decide +kernel
theorem dX7_nearest_99 : decode cX7_nearest 99 = .ok (.istore 4, 2) := by decide +kernel
theorem dX7_nearest_101 : decode cX7_nearest 101 = .ok (.iinc 5 1, 3) := by decide +kernel
theorem dX7_nearest_104 : decode cX7_nearest 104 = .ok (.goto (-76), 3) := by decide +kernel
theorem dX7_nearest_107 : decode cX7_nearest 107 = .ok (.iload_n 2, 1) := by decide +kernel
theorem dX7_nearest_108 : decode cX7_nearest 108 = .ok (.ifCond .ne 7, 3) := by decide +kernel
theorem dX7_nearest_111 : decode cX7_nearest 111 = .ok (.iload_n 3, 1) := by decide +kernel
theorem dX7_nearest_112 : decode cX7_nearest 112 = .ok (.goto 5, 3) := by decide +kernel
theorem dX7_nearest_115 : decode cX7_nearest 115 = .ok (.iload 4, 2) := by decide +kernel
theorem dX7_nearest_117 : decode cX7_nearest 117 = .ok (.ireturn, 1) := by decide +kernel
theorem dX7_may_0 : decode cX7_may 0 = .ok (.aload_n 0, 1) := by decide +kernel
theorem dX7_may_1 : decode cX7_may 1 = .ok (.iload_n 1, 1) := by decide +kernel
theorem dX7_may_2 : decode cX7_may 2 = .ok (.invokevirtual 144, 3) := by decide +kernel
theorem dX7_may_5 : decode cX7_may 5 = .ok (.ifCond .eq 11, 3) := by decide +kernel
theorem dX7_may_8 : decode cX7_may 8 = .ok (.aload_n 0, 1) := by decide +kernel
theorem dX7_may_9 : decode cX7_may 9 = .ok (.iload_n 2, 1) := by decide +kernel
theorem dX7_may_10 : decode cX7_may 10 = .ok (.invokevirtual 70, 3) := by decide +kernel
theorem dX7_may_13 : decode cX7_may 13 = .ok (.ifCond .ne 5, 3) := by decide +kernel
theorem dX7_may_16 : decode cX7_may 16 = .ok (.iconst (-1), 1) := by decide +kernel
theorem dX7_may_17 : decode cX7_may 17 = .ok (.ireturn, 1) := by decide +kernel
theorem dX7_may_18 : decode cX7_may 18 = .ok (.aload_n 0, 1) := by decide +kernel
theorem dX7_may_19 : decode cX7_may 19 = .ok (.getfield 12, 3) := by decide +kernel
theorem dX7_may_22 : decode cX7_may 22 = .ok (.aload_n 0, 1) := by decide +kernel
theorem dX7_may_23 : decode cX7_may 23 = .ok (.getfield 12, 3) := by decide +kernel
theorem dX7_may_26 : decode cX7_may 26 = .ok (.getfield 147, 3) := by decide +kernel
theorem dX7_may_29 : decode cX7_may 29 = .ok (.iload_n 1, 1) := by decide +kernel
theorem dX7_may_30 : decode cX7_may 30 = .ok (.aaload, 1) := by decide +kernel
theorem dX7_may_31 : decode cX7_may 31 = .ok (.iload_n 2, 1) := by decide +kernel
theorem dX7_may_32 : decode cX7_may 32 = .ok (.invokevirtual 197, 3) := by decide +kernel
theorem dX7_may_35 : decode cX7_may 35 = .ok (.ifCond .eq 7, 3) := by decide +kernel
theorem dX7_may_38 : decode cX7_may 38 = .ok (.iconst 1, 1) := by decide +kernel
theorem dX7_may_39 : decode cX7_may 39 = .ok (.goto 4, 3) := by decide +kernel
theorem dX7_may_42 : decode cX7_may 42 = .ok (.iconst 0, 1) := by decide +kernel
theorem dX7_may_43 : decode cX7_may 43 = .ok (.ireturn, 1) := by decide +kernel
theorem dX7_lost_0 : decode cX7_lost 0 = .ok (.aload_n 0, 1) := by decide +kernel
theorem dX7_lost_1 : decode cX7_lost 1 = .ok (.iload_n 1, 1) := by decide +kernel
theorem dX7_lost_2 : decode cX7_lost 2 = .ok (.invokevirtual 144, 3) := by decide +kernel
theorem dX7_lost_5 : decode cX7_lost 5 = .ok (.ifCond .eq 11, 3) := by decide +kernel
theorem dX7_lost_8 : decode cX7_lost 8 = .ok (.aload_n 0, 1) := by decide +kernel
theorem dX7_lost_9 : decode cX7_lost 9 = .ok (.iload_n 2, 1) := by decide +kernel
theorem dX7_lost_10 : decode cX7_lost 10 = .ok (.invokevirtual 70, 3) := by decide +kernel
theorem dX7_lost_13 : decode cX7_lost 13 = .ok (.ifCond .ne 5, 3) := by decide +kernel
theorem dX7_lost_16 : decode cX7_lost 16 = .ok (.iconst (-1), 1) := by decide +kernel
theorem dX7_lost_17 : decode cX7_lost 17 = .ok (.ireturn, 1) := by decide +kernel
theorem dX7_lost_18 : decode cX7_lost 18 = .ok (.aload_n 0, 1) := by decide +kernel
theorem dX7_lost_19 : decode cX7_lost 19 = .ok (.getfield 12, 3) := by decide +kernel
theorem dX7_lost_22 : decode cX7_lost 22 = .ok (.aload_n 0, 1) := by decide +kernel
theorem dX7_lost_23 : decode cX7_lost 23 = .ok (.getfield 12, 3) := by decide +kernel
theorem dX7_lost_26 : decode cX7_lost 26 = .ok (.getfield 147, 3) := by decide +kernel
theorem dX7_lost_29 : decode cX7_lost 29 = .ok (.iload_n 1, 1) := by decide +kernel
theorem dX7_lost_30 : decode cX7_lost 30 = .ok (.aaload, 1) := by decide +kernel
theorem dX7_lost_31 : decode cX7_lost 31 = .ok (.iload_n 2, 1) := by decide +kernel
theorem dX7_lost_32 : decode cX7_lost 32 = .ok (.invokevirtual 189, 3) := by decide +kernel
theorem dX7_lost_35 : decode cX7_lost 35 = .ok (.ifCond .eq 23, 3) := by decide +kernel
theorem dX7_lost_38 : decode cX7_lost 38 = .ok (.aload_n 0, 1) := by decide +kernel
theorem dX7_lost_39 : decode cX7_lost 39 = .ok (.getfield 12, 3) := by decide +kernel
theorem dX7_lost_42 : decode cX7_lost 42 = .ok (.aload_n 0, 1) := by decide +kernel
theorem dX7_lost_43 : decode cX7_lost 43 = .ok (.getfield 12, 3) := by decide +kernel
theorem dX7_lost_46 : decode cX7_lost 46 = .ok (.getfield 147, 3) := by decide +kernel
theorem dX7_lost_49 : decode cX7_lost 49 = .ok (.iload_n 1, 1) := by decide +kernel
theorem dX7_lost_50 : decode cX7_lost 50 = .ok (.aaload, 1) := by decide +kernel
theorem dX7_lost_51 : decode cX7_lost 51 = .ok (.iload_n 2, 1) := by decide +kernel
theorem dX7_lost_52 : decode cX7_lost 52 = .ok (.invokevirtual 200, 3) := by decide +kernel
theorem dX7_lost_55 : decode cX7_lost 55 = .ok (.goto 5, 3) := by decide +kernel
theorem dX7_lost_58 : decode cX7_lost 58 = .ok (.bipush (-2), 2) := by decide +kernel
theorem dX7_lost_60 : decode cX7_lost 60 = .ok (.ireturn, 1) := by decide +kernel
theorem dX7_plan_0 : decode cX7_plan 0 = .ok (.iload_n 1, 1) := by decide +kernel
theorem dX7_plan_1 : decode cX7_plan 1 = .ok (.invokestatic 176, 3) := by decide +kernel
theorem dX7_plan_4 : decode cX7_plan 4 = .ok (.ifCond .ne 5, 3) := by decide +kernel
theorem dX7_plan_7 : decode cX7_plan 7 = .ok (.iconst (-1), 1) := by decide +kernel
theorem dX7_plan_8 : decode cX7_plan 8 = .ok (.ireturn, 1) := by decide +kernel
theorem dX7_plan_9 : decode cX7_plan 9 = .ok (.aload_n 0, 1) := by decide +kernel
theorem dX7_plan_10 : decode cX7_plan 10 = .ok (.getfield 26, 3) := by decide +kernel
theorem dX7_plan_13 : decode cX7_plan 13 = .ok (.aload_n 0, 1) := by decide +kernel
theorem dX7_plan_14 : decode cX7_plan 14 = .ok (.getfield 12, 3) := by decide +kernel
theorem dX7_plan_17 : decode cX7_plan 17 = .ok (.invokevirtual 203, 3) := by decide +kernel
theorem dX7_plan_20 : decode cX7_plan 20 = .ok (.aload_n 0, 1) := by decide +kernel
theorem dX7_plan_21 : decode cX7_plan 21 = .ok (.getfield 26, 3) := by decide +kernel
theorem dX7_plan_24 : decode cX7_plan 24 = .ok (.aload_n 0, 1) := by decide +kernel
theorem dX7_plan_25 : decode cX7_plan 25 = .ok (.getfield 12, 3) := by decide +kernel
theorem dX7_plan_28 : decode cX7_plan 28 = .ok (.invokevirtual 183, 3) := by decide +kernel
theorem dX7_plan_31 : decode cX7_plan 31 = .ok (.aload_n 0, 1) := by decide +kernel
theorem dX7_plan_32 : decode cX7_plan 32 = .ok (.getfield 26, 3) := by decide +kernel
theorem dX7_plan_35 : decode cX7_plan 35 = .ok (.iload_n 1, 1) := by decide +kernel
theorem dX7_plan_36 : decode cX7_plan 36 = .ok (.invokevirtual 186, 3) := by decide +kernel
theorem dX7_plan_39 : decode cX7_plan 39 = .ok (.ireturn, 1) := by decide +kernel
theorem dX7_write_0 : decode cX7_write 0 = .ok (.aload_n 0, 1) := by decide +kernel
theorem dX7_write_1 : decode cX7_write 1 = .ok (.iload_n 1, 1) := by decide +kernel
theorem dX7_write_2 : decode cX7_write 2 = .ok (.invokevirtual 144, 3) := by decide +kernel
theorem dX7_write_5 : decode cX7_write 5 = .ok (.ifCond .eq 11, 3) := by decide +kernel
theorem dX7_write_8 : decode cX7_write 8 = .ok (.aload_n 0, 1) := by decide +kernel
theorem dX7_write_9 : decode cX7_write 9 = .ok (.iload_n 2, 1) := by decide +kernel
theorem dX7_write_10 : decode cX7_write 10 = .ok (.invokevirtual 70, 3) := by decide +kernel
theorem dX7_write_13 : decode cX7_write 13 = .ok (.ifCond .ne 5, 3) := by decide +kernel
theorem dX7_write_16 : decode cX7_write 16 = .ok (.iconst (-1), 1) := by decide +kernel
theorem dX7_write_17 : decode cX7_write 17 = .ok (.ireturn, 1) := by decide +kernel
theorem dX7_write_18 : decode cX7_write 18 = .ok (.aload_n 0, 1) := by decide +kernel
theorem dX7_write_19 : decode cX7_write 19 = .ok (.getfield 12, 3) := by decide +kernel
theorem dX7_write_22 : decode cX7_write 22 = .ok (.getfield 147, 3) := by decide +kernel
theorem dX7_write_25 : decode cX7_write 25 = .ok (.iload_n 1, 1) := by decide +kernel
theorem dX7_write_26 : decode cX7_write 26 = .ok (.aaload, 1) := by decide +kernel
theorem dX7_write_27 : decode cX7_write 27 = .ok (.astore_n 3, 1) := by decide +kernel
theorem dX7_write_28 : decode cX7_write 28 = .ok (.aload_n 0, 1) := by decide +kernel
theorem dX7_write_29 : decode cX7_write 29 = .ok (.getfield 12, 3) := by decide +kernel
theorem dX7_write_32 : decode cX7_write 32 = .ok (.aload_n 3, 1) := by decide +kernel
theorem dX7_write_33 : decode cX7_write 33 = .ok (.iload_n 2, 1) := by decide +kernel
theorem dX7_write_34 : decode cX7_write 34 = .ok (.invokevirtual 197, 3) := by decide +kernel
theorem dX7_write_37 : decode cX7_write 37 = .ok (.ifCond .ne 6, 3) := by decide +kernel
theorem dX7_write_40 : decode cX7_write 40 = .ok (.bipush (-2), 2) := by decide +kernel
theorem dX7_write_42 : decode cX7_write 42 = .ok (.ireturn, 1) := by decide +kernel
theorem dX7_write_43 : decode cX7_write 43 = .ok (.iconst 0, 1) := by decide +kernel
theorem dX7_write_44 : decode cX7_write 44 = .ok (.istore 4, 2) := by decide +kernel
theorem dX7_write_46 : decode cX7_write 46 = .ok (.iconst 0, 1) := by decide +kernel
theorem dX7_write_47 : decode cX7_write 47 = .ok (.istore 5, 2) := by decide +kernel
theorem dX7_write_49 : decode cX7_write 49 = .ok (.iload 5, 2) := by decide +kernel
theorem dX7_write_51 : decode cX7_write 51 = .ok (.aload_n 3, 1) := by decide +kernel
theorem dX7_write_52 : decode cX7_write 52 = .ok (.getfield 155, 3) := by decide +kernel
theorem dX7_write_55 : decode cX7_write 55 = .ok (.if_icmp .ge 36, 3) := by decide +kernel
theorem dX7_write_58 : decode cX7_write 58 = .ok (.iload 4, 2) := by decide +kernel
theorem dX7_write_60 : decode cX7_write 60 = .ok (.aload_n 0, 1) := by decide +kernel
theorem dX7_write_61 : decode cX7_write 61 = .ok (.getfield 12, 3) := by decide +kernel
theorem dX7_write_64 : decode cX7_write 64 = .ok (.iload_n 2, 1) := by decide +kernel
theorem dX7_write_65 : decode cX7_write 65 = .ok (.iload 5, 2) := by decide +kernel
theorem dX7_write_67 : decode cX7_write 67 = .ok (.iadd, 1) := by decide +kernel
theorem dX7_write_68 : decode cX7_write 68 = .ok (.getstatic 83, 3) := by decide +kernel
theorem dX7_write_71 : decode cX7_write 71 = .ok (.aload_n 3, 1) := by decide +kernel
theorem dX7_write_72 : decode cX7_write 72 = .ok (.getfield 156, 3) := by decide +kernel
theorem dX7_write_75 : decode cX7_write 75 = .ok (.iload 5, 2) := by decide +kernel
theorem dX7_write_77 : decode cX7_write 77 = .ok (.iaload, 1) := by decide +kernel
theorem dX7_write_78 : decode cX7_write 78 = .ok (.iaload, 1) := by decide +kernel
theorem dX7_write_79 : decode cX7_write 79 = .ok (.invokevirtual 99, 3) := by decide +kernel
theorem dX7_write_82 : decode cX7_write 82 = .ok (.iadd, 1) := by decide +kernel
theorem dX7_write_83 : decode cX7_write 83 = .ok (.istore 4, 2) := by decide +kernel
theorem dX7_write_85 : decode cX7_write 85 = .ok (.iinc 5 1, 3) := by decide +kernel
theorem dX7_write_88 : decode cX7_write 88 = .ok (.goto (-39), 3) := by decide +kernel
theorem dX7_write_91 : decode cX7_write 91 = .ok (.iload 4, 2) := by decide +kernel
theorem dX7_write_93 : decode cX7_write 93 = .ok (.ireturn, 1) := by decide +kernel
theorem dX7_share_0 : decode cX7_share 0 = .ok (.aload_n 0, 1) := by decide +kernel
theorem dX7_share_1 : decode cX7_share 1 = .ok (.iload_n 1, 1) := by decide +kernel
theorem dX7_share_2 : decode cX7_share 2 = .ok (.invokevirtual 144, 3) := by decide +kernel
theorem dX7_share_5 : decode cX7_share 5 = .ok (.ifCond .eq 20, 3) := by decide +kernel
theorem dX7_share_8 : decode cX7_share 8 = .ok (.aload_n 0, 1) := by decide +kernel
theorem dX7_share_9 : decode cX7_share 9 = .ok (.iload_n 2, 1) := by decide +kernel
theorem dX7_share_10 : decode cX7_share 10 = .ok (.invokevirtual 70, 3) := by decide +kernel
theorem dX7_share_13 : decode cX7_share 13 = .ok (.ifCond .eq 12, 3) := by decide +kernel
theorem dX7_share_16 : decode cX7_share 16 = .ok (.iload_n 3, 1) := by decide +kernel
theorem dX7_share_17 : decode cX7_share 17 = .ok (.bipush 6, 2) := by decide +kernel
theorem dX7_share_19 : decode cX7_share 19 = .ok (.invokestatic 51, 3) := by decide +kernel
theorem dX7_share_22 : decode cX7_share 22 = .ok (.ifCond .ne 5, 3) := by decide +kernel
theorem dX7_share_25 : decode cX7_share 25 = .ok (.iconst (-1), 1) := by decide +kernel
theorem dX7_share_26 : decode cX7_share 26 = .ok (.ireturn, 1) := by decide +kernel
theorem dX7_share_27 : decode cX7_share 27 = .ok (.aload_n 0, 1) := by decide +kernel
theorem dX7_share_28 : decode cX7_share 28 = .ok (.getfield 12, 3) := by decide +kernel
theorem dX7_share_31 : decode cX7_share 31 = .ok (.getfield 147, 3) := by decide +kernel
theorem dX7_share_34 : decode cX7_share 34 = .ok (.iload_n 1, 1) := by decide +kernel
theorem dX7_share_35 : decode cX7_share 35 = .ok (.aaload, 1) := by decide +kernel
theorem dX7_share_36 : decode cX7_share 36 = .ok (.astore 4, 2) := by decide +kernel
theorem dX7_share_38 : decode cX7_share 38 = .ok (.aload_n 0, 1) := by decide +kernel
theorem dX7_share_39 : decode cX7_share 39 = .ok (.getfield 12, 3) := by decide +kernel
theorem dX7_share_42 : decode cX7_share 42 = .ok (.aload 4, 2) := by decide +kernel
theorem dX7_share_44 : decode cX7_share 44 = .ok (.iload_n 2, 1) := by decide +kernel
theorem dX7_share_45 : decode cX7_share 45 = .ok (.invokevirtual 189, 3) := by decide +kernel
theorem dX7_share_48 : decode cX7_share 48 = .ok (.ifCond .ne 6, 3) := by decide +kernel
theorem dX7_share_51 : decode cX7_share 51 = .ok (.bipush (-2), 2) := by decide +kernel
theorem dX7_share_53 : decode cX7_share 53 = .ok (.ireturn, 1) := by decide +kernel
theorem dX7_share_54 : decode cX7_share 54 = .ok (.aload 4, 2) := by decide +kernel
theorem dX7_share_56 : decode cX7_share 56 = .ok (.getfield 150, 3) := by decide +kernel
theorem dX7_share_59 : decode cX7_share 59 = .ok (.aload_n 0, 1) := by decide +kernel
theorem dX7_share_60 : decode cX7_share 60 = .ok (.getfield 12, 3) := by decide +kernel
theorem dX7_share_63 : decode cX7_share 63 = .ok (.aload 4, 2) := by decide +kernel
theorem dX7_share_65 : decode cX7_share 65 = .ok (.iload_n 2, 1) := by decide +kernel
theorem dX7_share_66 : decode cX7_share 66 = .ok (.invokevirtual 200, 3) := by decide +kernel
theorem dX7_share_69 : decode cX7_share 69 = .ok (.isub, 1) := by decide +kernel
theorem dX7_share_70 : decode cX7_share 70 = .ok (.istore 5, 2) := by decide +kernel
theorem dX7_share_72 : decode cX7_share 72 = .ok (.iload 5, 2) := by decide +kernel
theorem dX7_share_74 : decode cX7_share 74 = .ok (.ifCond .ge 8, 3) := by decide +kernel
theorem dX7_share_77 : decode cX7_share 77 = .ok (.bipush (-2), 2) := by decide +kernel
theorem dX7_share_79 : decode cX7_share 79 = .ok (.goto 16, 3) := by decide +kernel
theorem dX7_share_82 : decode cX7_share 82 = .ok (.aload_n 0, 1) := by decide +kernel
theorem dX7_share_83 : decode cX7_share 83 = .ok (.getfield 12, 3) := by decide +kernel
theorem dX7_share_86 : decode cX7_share 86 = .ok (.aload 4, 2) := by decide +kernel
theorem dX7_share_88 : decode cX7_share 88 = .ok (.iload_n 2, 1) := by decide +kernel
theorem dX7_share_89 : decode cX7_share 89 = .ok (.iload_n 3, 1) := by decide +kernel
theorem dX7_share_90 : decode cX7_share 90 = .ok (.iload 5, 2) := by decide +kernel
theorem dX7_share_92 : decode cX7_share 92 = .ok (.invokevirtual 206, 3) := by decide +kernel
theorem dX7_share_95 : decode cX7_share 95 = .ok (.ireturn, 1) := by decide +kernel
theorem dX7_sure_0 : decode cX7_sure 0 = .ok (.iload_n 1, 1) := by decide +kernel
theorem dX7_sure_1 : decode cX7_sure 1 = .ok (.bipush 26, 2) := by decide +kernel
theorem dX7_sure_3 : decode cX7_sure 3 = .ok (.invokestatic 51, 3) := by decide +kernel
theorem dX7_sure_6 : decode cX7_sure 6 = .ok (.ifCond .eq 13, 3) := by decide +kernel
theorem dX7_sure_9 : decode cX7_sure 9 = .ok (.iload_n 2, 1) := by decide +kernel
theorem dX7_sure_10 : decode cX7_sure 10 = .ok (.ifCond .lt 9, 3) := by decide +kernel
theorem dX7_sure_13 : decode cX7_sure 13 = .ok (.iload_n 2, 1) := by decide +kernel
theorem dX7_sure_14 : decode cX7_sure 14 = .ok (.bipush 8, 2) := by decide +kernel
theorem dX7_sure_16 : decode cX7_sure 16 = .ok (.if_icmp .le 5, 3) := by decide +kernel
theorem dX7_sure_19 : decode cX7_sure 19 = .ok (.iconst (-1), 1) := by decide +kernel
theorem dX7_sure_20 : decode cX7_sure 20 = .ok (.ireturn, 1) := by decide +kernel
theorem dX7_sure_21 : decode cX7_sure 21 = .ok (.aload_n 0, 1) := by decide +kernel
theorem dX7_sure_22 : decode cX7_sure 22 = .ok (.getfield 33, 3) := by decide +kernel
theorem dX7_sure_25 : decode cX7_sure 25 = .ok (.iload_n 1, 1) := by decide +kernel
theorem dX7_sure_26 : decode cX7_sure 26 = .ok (.iload_n 2, 1) := by decide +kernel
theorem dX7_sure_27 : decode cX7_sure 27 = .ok (.aload_n 0, 1) := by decide +kernel
theorem dX7_sure_28 : decode cX7_sure 28 = .ok (.getfield 12, 3) := by decide +kernel
theorem dX7_sure_31 : decode cX7_sure 31 = .ok (.getfield 67, 3) := by decide +kernel
theorem dX7_sure_34 : decode cX7_sure 34 = .ok (.iconst 2, 1) := by decide +kernel
theorem dX7_sure_35 : decode cX7_sure 35 = .ok (.iaload, 1) := by decide +kernel
theorem dX7_sure_36 : decode cX7_sure 36 = .ok (.invokevirtual 210, 3) := by decide +kernel
theorem dX7_sure_39 : decode cX7_sure 39 = .ok (.ireturn, 1) := by decide +kernel
theorem dX7_taken_0 : decode cX7_taken 0 = .ok (.iload_n 1, 1) := by decide +kernel
theorem dX7_taken_1 : decode cX7_taken 1 = .ok (.bipush 26, 2) := by decide +kernel
theorem dX7_taken_3 : decode cX7_taken 3 = .ok (.invokestatic 51, 3) := by decide +kernel
theorem dX7_taken_6 : decode cX7_taken 6 = .ok (.ifCond .eq 13, 3) := by decide +kernel
theorem dX7_taken_9 : decode cX7_taken 9 = .ok (.iload_n 2, 1) := by decide +kernel
theorem dX7_taken_10 : decode cX7_taken 10 = .ok (.ifCond .lt 9, 3) := by decide +kernel
theorem dX7_taken_13 : decode cX7_taken 13 = .ok (.iload_n 2, 1) := by decide +kernel
theorem dX7_taken_14 : decode cX7_taken 14 = .ok (.bipush 8, 2) := by decide +kernel
theorem dX7_taken_16 : decode cX7_taken 16 = .ok (.if_icmp .le 5, 3) := by decide +kernel
theorem dX7_taken_19 : decode cX7_taken 19 = .ok (.iconst (-1), 1) := by decide +kernel
theorem dX7_taken_20 : decode cX7_taken 20 = .ok (.ireturn, 1) := by decide +kernel
theorem dX7_taken_21 : decode cX7_taken 21 = .ok (.aload_n 0, 1) := by decide +kernel
theorem dX7_taken_22 : decode cX7_taken 22 = .ok (.getfield 33, 3) := by decide +kernel
theorem dX7_taken_25 : decode cX7_taken 25 = .ok (.iload_n 1, 1) := by decide +kernel
theorem dX7_taken_26 : decode cX7_taken 26 = .ok (.iload_n 2, 1) := by decide +kernel
theorem dX7_taken_27 : decode cX7_taken 27 = .ok (.aload_n 0, 1) := by decide +kernel
theorem dX7_taken_28 : decode cX7_taken 28 = .ok (.getfield 12, 3) := by decide +kernel
theorem dX7_taken_31 : decode cX7_taken 31 = .ok (.getfield 67, 3) := by decide +kernel
theorem dX7_taken_34 : decode cX7_taken 34 = .ok (.iconst 2, 1) := by decide +kernel
theorem dX7_taken_35 : decode cX7_taken 35 = .ok (.iaload, 1) := by decide +kernel
theorem dX7_taken_36 : decode cX7_taken 36 = .ok (.invokevirtual 214, 3) := by decide +kernel
theorem dX7_taken_39 : decode cX7_taken 39 = .ok (.ireturn, 1) := by decide +kernel
theorem dX7_fades_0 : decode cX7_fades 0 = .ok (.aload_n 0, 1) := by decide +kernel
theorem dX7_fades_1 : decode cX7_fades 1 = .ok (.iload_n 1, 1) := by decide +kernel
theorem dX7_fades_2 : decode cX7_fades 2 = .ok (.invokevirtual 144, 3) := by decide +kernel
theorem dX7_fades_5 : decode cX7_fades 5 = .ok (.ifCond .eq 11, 3) := by decide +kernel
theorem dX7_fades_8 : decode cX7_fades 8 = .ok (.aload_n 0, 1) := by decide +kernel
theorem dX7_fades_9 : decode cX7_fades 9 = .ok (.iload_n 2, 1) := by decide +kernel
theorem dX7_fades_10 : decode cX7_fades 10 = .ok (.invokevirtual 70, 3) := by decide +kernel
theorem dX7_fades_13 : decode cX7_fades 13 = .ok (.ifCond .ne 5, 3) := by decide +kernel
theorem dX7_fades_16 : decode cX7_fades 16 = .ok (.iconst (-1), 1) := by decide +kernel
theorem dX7_fades_17 : decode cX7_fades 17 = .ok (.ireturn, 1) := by decide +kernel
theorem dX7_fades_18 : decode cX7_fades 18 = .ok (.aload_n 0, 1) := by decide +kernel
theorem dX7_fades_19 : decode cX7_fades 19 = .ok (.getfield 12, 3) := by decide +kernel
theorem dX7_fades_22 : decode cX7_fades 22 = .ok (.getfield 147, 3) := by decide +kernel
theorem dX7_fades_25 : decode cX7_fades 25 = .ok (.iload_n 1, 1) := by decide +kernel
theorem dX7_fades_26 : decode cX7_fades 26 = .ok (.aaload, 1) := by decide +kernel
theorem dX7_fades_27 : decode cX7_fades 27 = .ok (.astore_n 3, 1) := by decide +kernel
theorem dX7_fades_28 : decode cX7_fades 28 = .ok (.aload_n 0, 1) := by decide +kernel
theorem dX7_fades_29 : decode cX7_fades 29 = .ok (.getfield 12, 3) := by decide +kernel
theorem dX7_fades_32 : decode cX7_fades 32 = .ok (.aload_n 3, 1) := by decide +kernel
theorem dX7_fades_33 : decode cX7_fades 33 = .ok (.iload_n 2, 1) := by decide +kernel
theorem dX7_fades_34 : decode cX7_fades 34 = .ok (.iconst 0, 1) := by decide +kernel
theorem dX7_fades_35 : decode cX7_fades 35 = .ok (.invokevirtual 172, 3) := by decide +kernel
theorem dX7_fades_38 : decode cX7_fades 38 = .ok (.ifCond .ne 6, 3) := by decide +kernel
theorem dX7_fades_41 : decode cX7_fades 41 = .ok (.bipush (-2), 2) := by decide +kernel
theorem dX7_fades_43 : decode cX7_fades 43 = .ok (.ireturn, 1) := by decide +kernel
theorem dX7_fades_44 : decode cX7_fades 44 = .ok (.iconst 1, 1) := by decide +kernel
theorem dX7_fades_45 : decode cX7_fades 45 = .ok (.istore 4, 2) := by decide +kernel
theorem dX7_fades_47 : decode cX7_fades 47 = .ok (.iload 4, 2) := by decide +kernel
theorem dX7_fades_49 : decode cX7_fades 49 = .ok (.bipush 30, 2) := by decide +kernel
theorem dX7_fades_51 : decode cX7_fades 51 = .ok (.if_icmp .gt 26, 3) := by decide +kernel
theorem dX7_fades_54 : decode cX7_fades 54 = .ok (.aload_n 0, 1) := by decide +kernel
theorem dX7_fades_55 : decode cX7_fades 55 = .ok (.getfield 12, 3) := by decide +kernel
theorem dX7_fades_58 : decode cX7_fades 58 = .ok (.aload_n 3, 1) := by decide +kernel
theorem dX7_fades_59 : decode cX7_fades 59 = .ok (.iload_n 2, 1) := by decide +kernel
theorem dX7_fades_60 : decode cX7_fades 60 = .ok (.iload 4, 2) := by decide +kernel
theorem dX7_fades_62 : decode cX7_fades 62 = .ok (.invokevirtual 172, 3) := by decide +kernel
theorem dX7_fades_65 : decode cX7_fades 65 = .ok (.ifCond .ne 6, 3) := by decide +kernel
theorem dX7_fades_68 : decode cX7_fades 68 = .ok (.iload 4, 2) := by decide +kernel
theorem dX7_fades_70 : decode cX7_fades 70 = .ok (.ireturn, 1) := by decide +kernel
theorem dX7_fades_71 : decode cX7_fades 71 = .ok (.iinc 4 1, 3) := by decide +kernel
theorem dX7_fades_74 : decode cX7_fades 74 = .ok (.goto (-27), 3) := by decide +kernel
theorem dX7_fades_77 : decode cX7_fades 77 = .ok (.bipush (-4), 2) := by decide +kernel
theorem dX7_fades_79 : decode cX7_fades 79 = .ok (.ireturn, 1) := by decide +kernel
theorem dX7_brief_0 : decode cX7_brief 0 = .ok (.aload_n 0, 1) := by decide +kernel
theorem dX7_brief_1 : decode cX7_brief 1 = .ok (.iload_n 1, 1) := by decide +kernel
theorem dX7_brief_2 : decode cX7_brief 2 = .ok (.invokevirtual 144, 3) := by decide +kernel
theorem dX7_brief_5 : decode cX7_brief 5 = .ok (.ifCond .ne 5, 3) := by decide +kernel
theorem dX7_brief_8 : decode cX7_brief 8 = .ok (.iconst (-1), 1) := by decide +kernel
theorem dX7_brief_9 : decode cX7_brief 9 = .ok (.ireturn, 1) := by decide +kernel
theorem dX7_brief_10 : decode cX7_brief 10 = .ok (.bipush (-4), 2) := by decide +kernel
theorem dX7_brief_12 : decode cX7_brief 12 = .ok (.istore_n 2, 1) := by decide +kernel
theorem dX7_brief_13 : decode cX7_brief 13 = .ok (.bipush 7, 2) := by decide +kernel
theorem dX7_brief_15 : decode cX7_brief 15 = .ok (.istore_n 3, 1) := by decide +kernel
theorem dX7_brief_16 : decode cX7_brief 16 = .ok (.iconst 1, 1) := by decide +kernel
theorem dX7_brief_17 : decode cX7_brief 17 = .ok (.aload_n 0, 1) := by decide +kernel
theorem dX7_brief_18 : decode cX7_brief 18 = .ok (.getfield 12, 3) := by decide +kernel
theorem dX7_brief_21 : decode cX7_brief 21 = .ok (.getfield 147, 3) := by decide +kernel
theorem dX7_brief_24 : decode cX7_brief 24 = .ok (.iload_n 1, 1) := by decide +kernel
theorem dX7_brief_25 : decode cX7_brief 25 = .ok (.aaload, 1) := by decide +kernel
theorem dX7_brief_26 : decode cX7_brief 26 = .ok (.getfield 155, 3) := by decide +kernel
theorem dX7_brief_29 : decode cX7_brief 29 = .ok (.ishl, 1) := by decide +kernel
theorem dX7_brief_30 : decode cX7_brief 30 = .ok (.istore 4, 2) := by decide +kernel
theorem dX7_brief_32 : decode cX7_brief 32 = .ok (.iconst 1, 1) := by decide +kernel
theorem dX7_brief_33 : decode cX7_brief 33 = .ok (.istore 5, 2) := by decide +kernel
theorem dX7_brief_35 : decode cX7_brief 35 = .ok (.iload 5, 2) := by decide +kernel
theorem dX7_brief_37 : decode cX7_brief 37 = .ok (.iload 4, 2) := by decide +kernel
theorem dX7_brief_39 : decode cX7_brief 39 = .ok (.if_icmp .ge 48, 3) := by decide +kernel
theorem dX7_brief_42 : decode cX7_brief 42 = .ok (.iload 5, 2) := by decide +kernel
theorem dX7_brief_44 : decode cX7_brief 44 = .ok (.invokestatic 217, 3) := by decide +kernel
theorem dX7_brief_47 : decode cX7_brief 47 = .ok (.iload_n 3, 1) := by decide +kernel
theorem dX7_brief_48 : decode cX7_brief 48 = .ok (.if_icmp .ge 33, 3) := by decide +kernel
theorem dX7_brief_51 : decode cX7_brief 51 = .ok (.aload_n 0, 1) := by decide +kernel
theorem dX7_brief_52 : decode cX7_brief 52 = .ok (.getfield 12, 3) := by decide +kernel
theorem dX7_brief_55 : decode cX7_brief 55 = .ok (.aload_n 0, 1) := by decide +kernel
theorem dX7_brief_56 : decode cX7_brief 56 = .ok (.getfield 12, 3) := by decide +kernel
theorem dX7_brief_59 : decode cX7_brief 59 = .ok (.getfield 147, 3) := by decide +kernel
theorem dX7_brief_62 : decode cX7_brief 62 = .ok (.iload_n 1, 1) := by decide +kernel
theorem dX7_brief_63 : decode cX7_brief 63 = .ok (.aaload, 1) := by decide +kernel
theorem dX7_brief_64 : decode cX7_brief 64 = .ok (.iload 5, 2) := by decide +kernel
theorem dX7_brief_66 : decode cX7_brief 66 = .ok (.invokevirtual 222, 3) := by decide +kernel
theorem dX7_brief_69 : decode cX7_brief 69 = .ok (.ifCond .eq 12, 3) := by decide +kernel
theorem dX7_brief_72 : decode cX7_brief 72 = .ok (.iload 5, 2) := by decide +kernel
theorem dX7_brief_74 : decode cX7_brief 74 = .ok (.istore_n 2, 1) := by decide +kernel
theorem dX7_brief_75 : decode cX7_brief 75 = .ok (.iload 5, 2) := by decide +kernel
theorem dX7_brief_77 : decode cX7_brief 77 = .ok (.invokestatic 217, 3) := by decide +kernel
theorem dX7_brief_80 : decode cX7_brief 80 = .ok (.istore_n 3, 1) := by decide +kernel
theorem dX7_brief_81 : decode cX7_brief 81 = .ok (.iinc 5 1, 3) := by decide +kernel
theorem dX7_brief_84 : decode cX7_brief 84 = .ok (.goto (-49), 3) := by decide +kernel
theorem dX7_brief_87 : decode cX7_brief 87 = .ok (.iload_n 2, 1) := by decide +kernel
theorem dX7_brief_88 : decode cX7_brief 88 = .ok (.ireturn, 1) := by decide +kernel
theorem dX7_image_0 : decode cX7_image 0 = .ok (.aload_n 0, 1) := by decide +kernel
theorem dX7_image_1 : decode cX7_image 1 = .ok (.getfield 16, 3) := by decide +kernel
theorem dX7_image_4 : decode cX7_image 4 = .ok (.aload_n 0, 1) := by decide +kernel
theorem dX7_image_5 : decode cX7_image 5 = .ok (.getfield 12, 3) := by decide +kernel
theorem dX7_image_8 : decode cX7_image 8 = .ok (.invokevirtual 225, 3) := by decide +kernel
theorem dX7_image_11 : decode cX7_image 11 = .ok (.aload_n 0, 1) := by decide +kernel
theorem dX7_image_12 : decode cX7_image 12 = .ok (.iconst 1, 1) := by decide +kernel
theorem dX7_image_13 : decode cX7_image 13 = .ok (.putfield 19, 3) := by decide +kernel
theorem dX7_image_16 : decode cX7_image 16 = .ok (.iconst 1, 1) := by decide +kernel
theorem dX7_image_17 : decode cX7_image 17 = .ok (.ireturn, 1) := by decide +kernel
theorem dX7_restore_0 : decode cX7_restore 0 = .ok (.aload_n 0, 1) := by decide +kernel
theorem dX7_restore_1 : decode cX7_restore 1 = .ok (.getfield 19, 3) := by decide +kernel
theorem dX7_restore_4 : decode cX7_restore 4 = .ok (.ifCond .ne 6, 3) := by decide +kernel
theorem dX7_restore_7 : decode cX7_restore 7 = .ok (.bipush (-4), 2) := by decide +kernel
theorem dX7_restore_9 : decode cX7_restore 9 = .ok (.ireturn, 1) := by decide +kernel
theorem dX7_restore_10 : decode cX7_restore 10 = .ok (.aload_n 0, 1) := by decide +kernel
theorem dX7_restore_11 : decode cX7_restore 11 = .ok (.getfield 12, 3) := by decide +kernel
theorem dX7_restore_14 : decode cX7_restore 14 = .ok (.aload_n 0, 1) := by decide +kernel
theorem dX7_restore_15 : decode cX7_restore 15 = .ok (.getfield 16, 3) := by decide +kernel
theorem dX7_restore_18 : decode cX7_restore 18 = .ok (.invokevirtual 225, 3) := by decide +kernel
theorem dX7_restore_21 : decode cX7_restore 21 = .ok (.iconst 1, 1) := by decide +kernel
theorem dX7_restore_22 : decode cX7_restore 22 = .ok (.ireturn, 1) := by decide +kernel
theorem dX7_sow_0 : decode cX7_sow 0 = .ok (.aload_n 0, 1) := by decide +kernel
theorem dX7_sow_1 : decode cX7_sow 1 = .ok (.iload_n 1, 1) := by decide +kernel
theorem dX7_sow_2 : decode cX7_sow 2 = .ok (.invokevirtual 70, 3) := by decide +kernel
theorem dX7_sow_5 : decode cX7_sow 5 = .ok (.ifCond .eq 11, 3) := by decide +kernel
theorem dX7_sow_8 : decode cX7_sow 8 = .ok (.iload_n 2, 1) := by decide +kernel
theorem dX7_sow_9 : decode cX7_sow 9 = .ok (.iload_n 3, 1) := by decide +kernel
theorem dX7_sow_10 : decode cX7_sow 10 = .ok (.invokestatic 228, 3) := by decide +kernel
theorem dX7_sow_13 : decode cX7_sow 13 = .ok (.ifCond .ne 5, 3) := by decide +kernel
theorem dX7_sow_16 : decode cX7_sow 16 = .ok (.iconst (-1), 1) := by decide +kernel
theorem dX7_sow_17 : decode cX7_sow 17 = .ok (.ireturn, 1) := by decide +kernel
theorem dX7_sow_18 : decode cX7_sow 18 = .ok (.aload_n 0, 1) := by decide +kernel
theorem dX7_sow_19 : decode cX7_sow 19 = .ok (.getfield 46, 3) := by decide +kernel
theorem dX7_sow_22 : decode cX7_sow 22 = .ok (.iload_n 2, 1) := by decide +kernel
theorem dX7_sow_23 : decode cX7_sow 23 = .ok (.aaload, 1) := by decide +kernel
theorem dX7_sow_24 : decode cX7_sow 24 = .ok (.astore 5, 2) := by decide +kernel
theorem dX7_sow_26 : decode cX7_sow 26 = .ok (.aload 5, 2) := by decide +kernel
theorem dX7_sow_28 : decode cX7_sow 28 = .ok (.iload_n 3, 1) := by decide +kernel
theorem dX7_sow_29 : decode cX7_sow 29 = .ok (.iload 4, 2) := by decide +kernel
theorem dX7_sow_31 : decode cX7_sow 31 = .ok (.bipush 15, 2) := by decide +kernel
theorem dX7_sow_33 : decode cX7_sow 33 = .ok (.invokevirtual 231, 3) := by decide +kernel
theorem dX7_sow_36 : decode cX7_sow 36 = .ok (.istore 6, 2) := by decide +kernel
theorem dX7_sow_38 : decode cX7_sow 38 = .ok (.iload 6, 2) := by decide +kernel
theorem dX7_sow_40 : decode cX7_sow 40 = .ok (.ifCond .eq 6, 3) := by decide +kernel
theorem dX7_sow_43 : decode cX7_sow 43 = .ok (.iload 6, 2) := by decide +kernel
theorem dX7_sow_45 : decode cX7_sow 45 = .ok (.ireturn, 1) := by decide +kernel
theorem dX7_sow_46 : decode cX7_sow 46 = .ok (.aload 5, 2) := by decide +kernel
theorem dX7_sow_48 : decode cX7_sow 48 = .ok (.iload 4, 2) := by decide +kernel
theorem dX7_sow_50 : decode cX7_sow 50 = .ok (.invokevirtual 234, 3) := by decide +kernel
theorem dX7_sow_53 : decode cX7_sow 53 = .ok (.ifCond .eq 25, 3) := by decide +kernel
theorem dX7_sow_56 : decode cX7_sow 56 = .ok (.aload_n 0, 1) := by decide +kernel
theorem dX7_sow_57 : decode cX7_sow 57 = .ok (.getfield 12, 3) := by decide +kernel
theorem dX7_sow_60 : decode cX7_sow 60 = .ok (.getfield 74, 3) := by decide +kernel
theorem dX7_sow_63 : decode cX7_sow 63 = .ok (.iload_n 1, 1) := by decide +kernel
theorem dX7_sow_64 : decode cX7_sow 64 = .ok (.aaload, 1) := by decide +kernel
theorem dX7_sow_65 : decode cX7_sow 65 = .ok (.aload 5, 2) := by decide +kernel
theorem dX7_sow_67 : decode cX7_sow 67 = .ok (.getfield 237, 3) := by decide +kernel
theorem dX7_sow_70 : decode cX7_sow 70 = .ok (.iload 4, 2) := by decide +kernel
theorem dX7_sow_72 : decode cX7_sow 72 = .ok (.invokevirtual 240, 3) := by decide +kernel
theorem dX7_sow_75 : decode cX7_sow 75 = .ok (.goto 5, 3) := by decide +kernel
theorem dX7_sow_78 : decode cX7_sow 78 = .ok (.bipush (-2), 2) := by decide +kernel
theorem dX7_sow_80 : decode cX7_sow 80 = .ok (.ireturn, 1) := by decide +kernel
theorem dX7_sheet_0 : decode cX7_sheet 0 = .ok (.iload_n 1, 1) := by decide +kernel
theorem dX7_sheet_1 : decode cX7_sheet 1 = .ok (.iload_n 2, 1) := by decide +kernel
theorem dX7_sheet_2 : decode cX7_sheet 2 = .ok (.invokestatic 228, 3) := by decide +kernel
theorem dX7_sheet_5 : decode cX7_sheet 5 = .ok (.ifCond .eq 9, 3) := by decide +kernel
theorem dX7_sheet_8 : decode cX7_sheet 8 = .ok (.iload_n 3, 1) := by decide +kernel
theorem dX7_sheet_9 : decode cX7_sheet 9 = .ok (.bipush 24, 2) := by decide +kernel
theorem dX7_sheet_11 : decode cX7_sheet 11 = .ok (.if_icmp .le 5, 3) := by decide +kernel
theorem dX7_sheet_14 : decode cX7_sheet 14 = .ok (.iconst (-1), 1) := by decide +kernel
theorem dX7_sheet_15 : decode cX7_sheet 15 = .ok (.ireturn, 1) := by decide +kernel
theorem dX7_sheet_16 : decode cX7_sheet 16 = .ok (.iload_n 3, 1) := by decide +kernel
theorem dX7_sheet_17 : decode cX7_sheet 17 = .ok (.ifCond .ge 6, 3) := by decide +kernel
theorem dX7_sheet_20 : decode cX7_sheet 20 = .ok (.bipush (-14), 2) := by decide +kernel
theorem dX7_sheet_22 : decode cX7_sheet 22 = .ok (.ireturn, 1) := by decide +kernel
theorem dX7_sheet_23 : decode cX7_sheet 23 = .ok (.aload_n 0, 1) := by decide +kernel
theorem dX7_sheet_24 : decode cX7_sheet 24 = .ok (.getfield 46, 3) := by decide +kernel
theorem dX7_sheet_27 : decode cX7_sheet 27 = .ok (.iload_n 1, 1) := by decide +kernel
theorem dX7_sheet_28 : decode cX7_sheet 28 = .ok (.aaload, 1) := by decide +kernel
theorem dX7_sheet_29 : decode cX7_sheet 29 = .ok (.iload_n 2, 1) := by decide +kernel
theorem dX7_sheet_30 : decode cX7_sheet 30 = .ok (.iload_n 3, 1) := by decide +kernel
theorem dX7_sheet_31 : decode cX7_sheet 31 = .ok (.invokevirtual 244, 3) := by decide +kernel
theorem dX7_sheet_34 : decode cX7_sheet 34 = .ok (.iload_n 3, 1) := by decide +kernel
theorem dX7_sheet_35 : decode cX7_sheet 35 = .ok (.ireturn, 1) := by decide +kernel
theorem dX7_drop_0 : decode cX7_drop 0 = .ok (.iload_n 1, 1) := by decide +kernel
theorem dX7_drop_1 : decode cX7_drop 1 = .ok (.iconst 4, 1) := by decide +kernel
theorem dX7_drop_2 : decode cX7_drop 2 = .ok (.invokestatic 51, 3) := by decide +kernel
theorem dX7_drop_5 : decode cX7_drop 5 = .ok (.ifCond .ne 5, 3) := by decide +kernel
theorem dX7_drop_8 : decode cX7_drop 8 = .ok (.iconst (-1), 1) := by decide +kernel
theorem dX7_drop_9 : decode cX7_drop 9 = .ok (.ireturn, 1) := by decide +kernel
theorem dX7_drop_10 : decode cX7_drop 10 = .ok (.aload_n 0, 1) := by decide +kernel
theorem dX7_drop_11 : decode cX7_drop 11 = .ok (.getfield 46, 3) := by decide +kernel
theorem dX7_drop_14 : decode cX7_drop 14 = .ok (.iload_n 1, 1) := by decide +kernel
theorem dX7_drop_15 : decode cX7_drop 15 = .ok (.aaload, 1) := by decide +kernel
theorem dX7_drop_16 : decode cX7_drop 16 = .ok (.astore_n 2, 1) := by decide +kernel
theorem dX7_drop_17 : decode cX7_drop 17 = .ok (.aload_n 2, 1) := by decide +kernel
theorem dX7_drop_18 : decode cX7_drop 18 = .ok (.getfield 248, 3) := by decide +kernel
theorem dX7_drop_21 : decode cX7_drop 21 = .ok (.iconst (-1), 1) := by decide +kernel
theorem dX7_drop_22 : decode cX7_drop 22 = .ok (.if_icmp .ne 6, 3) := by decide +kernel
theorem dX7_drop_25 : decode cX7_drop 25 = .ok (.bipush (-11), 2) := by decide +kernel
theorem dX7_drop_27 : decode cX7_drop 27 = .ok (.ireturn, 1) := by decide +kernel
theorem dX7_drop_28 : decode cX7_drop 28 = .ok (.aload_n 2, 1) := by decide +kernel
theorem dX7_drop_29 : decode cX7_drop 29 = .ok (.iconst (-1), 1) := by decide +kernel
theorem dX7_drop_30 : decode cX7_drop 30 = .ok (.putfield 248, 3) := by decide +kernel
theorem dX7_drop_33 : decode cX7_drop 33 = .ok (.aload_n 2, 1) := by decide +kernel
theorem dX7_drop_34 : decode cX7_drop 34 = .ok (.getfield 251, 3) := by decide +kernel
theorem dX7_drop_37 : decode cX7_drop 37 = .ok (.ireturn, 1) := by decide +kernel
theorem dX7_item_0 : decode cX7_item 0 = .ok (.iload_n 1, 1) := by decide +kernel
theorem dX7_item_1 : decode cX7_item 1 = .ok (.iload_n 2, 1) := by decide +kernel
theorem dX7_item_2 : decode cX7_item 2 = .ok (.invokestatic 228, 3) := by decide +kernel
theorem dX7_item_5 : decode cX7_item 5 = .ok (.ifCond .ne 5, 3) := by decide +kernel
theorem dX7_item_8 : decode cX7_item 8 = .ok (.iconst (-1), 1) := by decide +kernel
theorem dX7_item_9 : decode cX7_item 9 = .ok (.ireturn, 1) := by decide +kernel
theorem dX7_item_10 : decode cX7_item 10 = .ok (.aload_n 0, 1) := by decide +kernel
theorem dX7_item_11 : decode cX7_item 11 = .ok (.getfield 46, 3) := by decide +kernel
theorem dX7_item_14 : decode cX7_item 14 = .ok (.iload_n 1, 1) := by decide +kernel
theorem dX7_item_15 : decode cX7_item 15 = .ok (.aaload, 1) := by decide +kernel
theorem dX7_item_16 : decode cX7_item 16 = .ok (.iload_n 2, 1) := by decide +kernel
theorem dX7_item_17 : decode cX7_item 17 = .ok (.iload_n 3, 1) := by decide +kernel
theorem dX7_item_18 : decode cX7_item 18 = .ok (.iconst 1, 1) := by decide +kernel
theorem dX7_item_19 : decode cX7_item 19 = .ok (.invokevirtual 231, 3) := by decide +kernel
theorem dX7_item_22 : decode cX7_item 22 = .ok (.istore 5, 2) := by decide +kernel
theorem dX7_item_24 : decode cX7_item 24 = .ok (.iload 5, 2) := by decide +kernel
theorem dX7_item_26 : decode cX7_item 26 = .ok (.ifCond .eq 6, 3) := by decide +kernel
theorem dX7_item_29 : decode cX7_item 29 = .ok (.iload 5, 2) := by decide +kernel
theorem dX7_item_31 : decode cX7_item 31 = .ok (.ireturn, 1) := by decide +kernel
theorem dX7_item_32 : decode cX7_item 32 = .ok (.aload_n 0, 1) := by decide +kernel
theorem dX7_item_33 : decode cX7_item 33 = .ok (.getfield 46, 3) := by decide +kernel
theorem dX7_item_36 : decode cX7_item 36 = .ok (.iload_n 1, 1) := by decide +kernel
theorem dX7_item_37 : decode cX7_item 37 = .ok (.aaload, 1) := by decide +kernel
theorem dX7_item_38 : decode cX7_item 38 = .ok (.iload_n 3, 1) := by decide +kernel
theorem dX7_item_39 : decode cX7_item 39 = .ok (.iload 4, 2) := by decide +kernel
theorem dX7_item_41 : decode cX7_item 41 = .ok (.invokevirtual 252, 3) := by decide +kernel
theorem dX7_item_44 : decode cX7_item 44 = .ok (.iconst 1, 1) := by decide +kernel
theorem dX7_item_45 : decode cX7_item 45 = .ok (.ireturn, 1) := by decide +kernel
theorem dX7_film_0 : decode cX7_film 0 = .ok (.iload_n 1, 1) := by decide +kernel
theorem dX7_film_1 : decode cX7_film 1 = .ok (.iload_n 2, 1) := by decide +kernel
theorem dX7_film_2 : decode cX7_film 2 = .ok (.invokestatic 228, 3) := by decide +kernel
theorem dX7_film_5 : decode cX7_film 5 = .ok (.ifCond .ne 5, 3) := by decide +kernel
theorem dX7_film_8 : decode cX7_film 8 = .ok (.iconst (-1), 1) := by decide +kernel
theorem dX7_film_9 : decode cX7_film 9 = .ok (.ireturn, 1) := by decide +kernel
theorem dX7_film_10 : decode cX7_film 10 = .ok (.aload_n 0, 1) := by decide +kernel
theorem dX7_film_11 : decode cX7_film 11 = .ok (.getfield 46, 3) := by decide +kernel
theorem dX7_film_14 : decode cX7_film 14 = .ok (.iload_n 1, 1) := by decide +kernel
theorem dX7_film_15 : decode cX7_film 15 = .ok (.aaload, 1) := by decide +kernel
theorem dX7_film_16 : decode cX7_film 16 = .ok (.iload_n 2, 1) := by decide +kernel
theorem dX7_film_17 : decode cX7_film 17 = .ok (.iload_n 3, 1) := by decide +kernel
theorem dX7_film_18 : decode cX7_film 18 = .ok (.aload_n 0, 1) := by decide +kernel
theorem dX7_film_19 : decode cX7_film 19 = .ok (.getfield 12, 3) := by decide +kernel
theorem dX7_film_22 : decode cX7_film 22 = .ok (.getfield 55, 3) := by decide +kernel
theorem dX7_film_25 : decode cX7_film 25 = .ok (.invokevirtual 231, 3) := by decide +kernel
theorem dX7_film_28 : decode cX7_film 28 = .ok (.istore 4, 2) := by decide +kernel
theorem dX7_film_30 : decode cX7_film 30 = .ok (.iload 4, 2) := by decide +kernel
theorem dX7_film_32 : decode cX7_film 32 = .ok (.ifCond .eq 6, 3) := by decide +kernel
theorem dX7_film_35 : decode cX7_film 35 = .ok (.iload 4, 2) := by decide +kernel
theorem dX7_film_37 : decode cX7_film 37 = .ok (.ireturn, 1) := by decide +kernel
theorem dX7_film_38 : decode cX7_film 38 = .ok (.iconst 0, 1) := by decide +kernel
theorem dX7_film_39 : decode cX7_film 39 = .ok (.istore 5, 2) := by decide +kernel
theorem dX7_film_41 : decode cX7_film 41 = .ok (.iload 5, 2) := by decide +kernel
theorem dX7_film_43 : decode cX7_film 43 = .ok (.aload_n 0, 1) := by decide +kernel
theorem dX7_film_44 : decode cX7_film 44 = .ok (.getfield 12, 3) := by decide +kernel
theorem dX7_film_47 : decode cX7_film 47 = .ok (.getfield 55, 3) := by decide +kernel
theorem dX7_film_50 : decode cX7_film 50 = .ok (.if_icmp .ge 31, 3) := by decide +kernel
theorem dX7_film_53 : decode cX7_film 53 = .ok (.aload_n 0, 1) := by decide +kernel
theorem dX7_film_54 : decode cX7_film 54 = .ok (.getfield 46, 3) := by decide +kernel
theorem dX7_film_57 : decode cX7_film 57 = .ok (.iload_n 1, 1) := by decide +kernel
theorem dX7_film_58 : decode cX7_film 58 = .ok (.aaload, 1) := by decide +kernel
theorem dX7_film_59 : decode cX7_film 59 = .ok (.iload_n 3, 1) := by decide +kernel
theorem dX7_film_60 : decode cX7_film 60 = .ok (.iload 5, 2) := by decide +kernel
theorem dX7_film_62 : decode cX7_film 62 = .ok (.iadd, 1) := by decide +kernel
theorem dX7_film_63 : decode cX7_film 63 = .ok (.aload_n 0, 1) := by decide +kernel
theorem dX7_film_64 : decode cX7_film 64 = .ok (.getfield 12, 3) := by decide +kernel
theorem dX7_film_67 : decode cX7_film 67 = .ok (.iload 5, 2) := by decide +kernel
theorem dX7_film_69 : decode cX7_film 69 = .ok (.invokevirtual 90, 3) := by decide +kernel
theorem dX7_film_72 : decode cX7_film 72 = .ok (.invokevirtual 252, 3) := by decide +kernel
theorem dX7_film_75 : decode cX7_film 75 = .ok (.iinc 5 1, 3) := by decide +kernel
theorem dX7_film_78 : decode cX7_film 78 = .ok (.goto (-37), 3) := by decide +kernel
theorem dX7_film_81 : decode cX7_film 81 = .ok (.aload_n 0, 1) := by decide +kernel
theorem dX7_film_82 : decode cX7_film 82 = .ok (.getfield 12, 3) := by decide +kernel
theorem dX7_film_85 : decode cX7_film 85 = .ok (.getfield 55, 3) := by decide +kernel
theorem dX7_film_88 : decode cX7_film 88 = .ok (.ireturn, 1) := by decide +kernel
theorem dX7_isBelow_0 : decode cX7_isBelow 0 = .ok (.iload_n 0, 1) := by decide +kernel
theorem dX7_isBelow_1 : decode cX7_isBelow 1 = .ok (.ifCond .lt 12, 3) := by decide +kernel
theorem dX7_isBelow_4 : decode cX7_isBelow 4 = .ok (.iload_n 0, 1) := by decide +kernel
theorem dX7_isBelow_5 : decode cX7_isBelow 5 = .ok (.iload_n 1, 1) := by decide +kernel
theorem dX7_isBelow_6 : decode cX7_isBelow 6 = .ok (.if_icmp .ge 7, 3) := by decide +kernel
theorem dX7_isBelow_9 : decode cX7_isBelow 9 = .ok (.iconst 1, 1) := by decide +kernel
theorem dX7_isBelow_10 : decode cX7_isBelow 10 = .ok (.goto 4, 3) := by decide +kernel
theorem dX7_isBelow_13 : decode cX7_isBelow 13 = .ok (.iconst 0, 1) := by decide +kernel
theorem dX7_isBelow_14 : decode cX7_isBelow 14 = .ok (.ireturn, 1) := by decide +kernel
theorem dX7_isStrip_0 : decode cX7_isStrip 0 = .ok (.iload_n 1, 1) := by decide +kernel
theorem dX7_isStrip_1 : decode cX7_isStrip 1 = .ok (.aload_n 0, 1) := by decide +kernel
theorem dX7_isStrip_2 : decode cX7_isStrip 2 = .ok (.getfield 12, 3) := by decide +kernel
theorem dX7_isStrip_5 : decode cX7_isStrip 5 = .ok (.getfield 55, 3) := by decide +kernel
theorem dX7_isStrip_8 : decode cX7_isStrip 8 = .ok (.invokestatic 51, 3) := by decide +kernel
theorem dX7_isStrip_11 : decode cX7_isStrip 11 = .ok (.ireturn, 1) := by decide +kernel
theorem dX7_isWord_0 : decode cX7_isWord 0 = .ok (.iload_n 1, 1) := by decide +kernel
theorem dX7_isWord_1 : decode cX7_isWord 1 = .ok (.aload_n 0, 1) := by decide +kernel
theorem dX7_isWord_2 : decode cX7_isWord 2 = .ok (.getfield 12, 3) := by decide +kernel
theorem dX7_isWord_5 : decode cX7_isWord 5 = .ok (.getfield 133, 3) := by decide +kernel
theorem dX7_isWord_8 : decode cX7_isWord 8 = .ok (.invokestatic 51, 3) := by decide +kernel
theorem dX7_isWord_11 : decode cX7_isWord 11 = .ok (.ireturn, 1) := by decide +kernel
theorem dX7_isRowPlace_0 : decode cX7_isRowPlace 0 = .ok (.iload_n 0, 1) := by decide +kernel
theorem dX7_isRowPlace_1 : decode cX7_isRowPlace 1 = .ok (.bipush (-2), 2) := by decide +kernel
theorem dX7_isRowPlace_3 : decode cX7_isRowPlace 3 = .ok (.if_icmp .lt 13, 3) := by decide +kernel
theorem dX7_isRowPlace_6 : decode cX7_isRowPlace 6 = .ok (.iload_n 0, 1) := by decide +kernel
theorem dX7_isRowPlace_7 : decode cX7_isRowPlace 7 = .ok (.bipush 9, 2) := by decide +kernel
theorem dX7_isRowPlace_9 : decode cX7_isRowPlace 9 = .ok (.if_icmp .ge 7, 3) := by decide +kernel
theorem dX7_isRowPlace_12 : decode cX7_isRowPlace 12 = .ok (.iconst 1, 1) := by decide +kernel
theorem dX7_isRowPlace_13 : decode cX7_isRowPlace 13 = .ok (.goto 4, 3) := by decide +kernel
theorem dX7_isRowPlace_16 : decode cX7_isRowPlace 16 = .ok (.iconst 0, 1) := by decide +kernel
theorem dX7_isRowPlace_17 : decode cX7_isRowPlace 17 = .ok (.ireturn, 1) := by decide +kernel
theorem dX7_isSheet_0 : decode cX7_isSheet 0 = .ok (.iload_n 0, 1) := by decide +kernel
theorem dX7_isSheet_1 : decode cX7_isSheet 1 = .ok (.iconst 4, 1) := by decide +kernel
theorem dX7_isSheet_2 : decode cX7_isSheet 2 = .ok (.invokestatic 51, 3) := by decide +kernel
theorem dX7_isSheet_5 : decode cX7_isSheet 5 = .ok (.ifCond .eq 15, 3) := by decide +kernel
theorem dX7_isSheet_8 : decode cX7_isSheet 8 = .ok (.iload_n 1, 1) := by decide +kernel
theorem dX7_isSheet_9 : decode cX7_isSheet 9 = .ok (.iconst 3, 1) := by decide +kernel
theorem dX7_isSheet_10 : decode cX7_isSheet 10 = .ok (.invokestatic 51, 3) := by decide +kernel
theorem dX7_isSheet_13 : decode cX7_isSheet 13 = .ok (.ifCond .eq 7, 3) := by decide +kernel
theorem dX7_isSheet_16 : decode cX7_isSheet 16 = .ok (.iconst 1, 1) := by decide +kernel
theorem dX7_isSheet_17 : decode cX7_isSheet 17 = .ok (.goto 4, 3) := by decide +kernel
theorem dX7_isSheet_20 : decode cX7_isSheet 20 = .ok (.iconst 0, 1) := by decide +kernel
theorem dX7_isSheet_21 : decode cX7_isSheet 21 = .ok (.ireturn, 1) := by decide +kernel
theorem dX7_closestKey_0 : decode cX7_closestKey 0 = .ok (.sipush 512, 3) := by decide +kernel
theorem dX7_closestKey_3 : decode cX7_closestKey 3 = .ok (.istore_n 1, 1) := by decide +kernel
theorem dX7_closestKey_4 : decode cX7_closestKey 4 = .ok (.iconst 0, 1) := by decide +kernel
theorem dX7_closestKey_5 : decode cX7_closestKey 5 = .ok (.istore_n 2, 1) := by decide +kernel
theorem dX7_closestKey_6 : decode cX7_closestKey 6 = .ok (.iload_n 2, 1) := by decide +kernel
theorem dX7_closestKey_7 : decode cX7_closestKey 7 = .ok (.bipush 26, 2) := by decide +kernel
theorem dX7_closestKey_9 : decode cX7_closestKey 9 = .ok (.if_icmp .ge 29, 3) := by decide +kernel
theorem dX7_closestKey_12 : decode cX7_closestKey 12 = .ok (.iload_n 1, 1) := by decide +kernel
theorem dX7_closestKey_13 : decode cX7_closestKey 13 = .ok (.bipush 32, 2) := by decide +kernel
theorem dX7_closestKey_15 : decode cX7_closestKey 15 = .ok (.iload_n 0, 1) := by decide +kernel
theorem dX7_closestKey_16 : decode cX7_closestKey 16 = .ok (.getstatic 83, 3) := by decide +kernel
theorem dX7_closestKey_19 : decode cX7_closestKey 19 = .ok (.iload_n 2, 1) := by decide +kernel
theorem dX7_closestKey_20 : decode cX7_closestKey 20 = .ok (.iaload, 1) := by decide +kernel
theorem dX7_closestKey_21 : decode cX7_closestKey 21 = .ok (.ixor, 1) := by decide +kernel
theorem dX7_closestKey_22 : decode cX7_closestKey 22 = .ok (.invokestatic 217, 3) := by decide +kernel
theorem dX7_closestKey_25 : decode cX7_closestKey 25 = .ok (.imul, 1) := by decide +kernel
theorem dX7_closestKey_26 : decode cX7_closestKey 26 = .ok (.iload_n 2, 1) := by decide +kernel
theorem dX7_closestKey_27 : decode cX7_closestKey 27 = .ok (.iadd, 1) := by decide +kernel
theorem dX7_closestKey_28 : decode cX7_closestKey 28 = .ok (.invokestatic 255, 3) := by decide +kernel
theorem dX7_closestKey_31 : decode cX7_closestKey 31 = .ok (.istore_n 1, 1) := by decide +kernel
theorem dX7_closestKey_32 : decode cX7_closestKey 32 = .ok (.iinc 2 1, 3) := by decide +kernel
theorem dX7_closestKey_35 : decode cX7_closestKey 35 = .ok (.goto (-29), 3) := by decide +kernel
theorem dX7_closestKey_38 : decode cX7_closestKey 38 = .ok (.iload_n 1, 1) := by decide +kernel
theorem dX7_closestKey_39 : decode cX7_closestKey 39 = .ok (.ireturn, 1) := by decide +kernel
theorem dX8_init_0 : decode cX8_init 0 = .ok (.aload_n 0, 1) := by decide +kernel
theorem dX8_init_1 : decode cX8_init 1 = .ok (.invokespecial 1, 3) := by decide +kernel
theorem dX8_init_4 : decode cX8_init 4 = .ok (.aload_n 0, 1) := by decide +kernel
theorem dX8_init_5 : decode cX8_init 5 = .ok (.bipush 26, 2) := by decide +kernel
theorem dX8_init_7 : decode cX8_init 7 = .ok (.newarray .int, 2) := by decide +kernel
theorem dX8_init_9 : decode cX8_init 9 = .ok (.dup, 1) := by decide +kernel
theorem dX8_init_10 : decode cX8_init 10 = .ok (.iconst 0, 1) := by decide +kernel
theorem dX8_init_11 : decode cX8_init 11 = .ok (.sipush 23530, 3) := by decide +kernel
theorem dX8_init_14 : decode cX8_init 14 = .ok (.iastore, 1) := by decide +kernel
theorem dX8_init_15 : decode cX8_init 15 = .ok (.dup, 1) := by decide +kernel
theorem dX8_init_16 : decode cX8_init 16 = .ok (.iconst 1, 1) := by decide +kernel
theorem dX8_init_17 : decode cX8_init 17 = .ok (.sipush 15083, 3) := by decide +kernel
theorem dX8_init_20 : decode cX8_init 20 = .ok (.iastore, 1) := by decide +kernel
theorem dX8_init_21 : decode cX8_init 21 = .ok (.dup, 1) := by decide +kernel
theorem dX8_init_22 : decode cX8_init 22 = .ok (.iconst 2, 1) := by decide +kernel
theorem dX8_init_23 : decode cX8_init 23 = .ok (.sipush 25166, 3) := by decide +kernel
theorem dX8_init_26 : decode cX8_init 26 = .ok (.iastore, 1) := by decide +kernel
theorem dX8_init_27 : decode cX8_init 27 = .ok (.dup, 1) := by decide +kernel
theorem dX8_init_28 : decode cX8_init 28 = .ok (.iconst 3, 1) := by decide +kernel
theorem dX8_init_29 : decode cX8_init 29 = .ok (.sipush 15211, 3) := by decide +kernel
theorem dX8_init_32 : decode cX8_init 32 = .ok (.iastore, 1) := by decide +kernel
theorem dX8_init_33 : decode cX8_init 33 = .ok (.dup, 1) := by decide +kernel
theorem dX8_init_34 : decode cX8_init 34 = .ok (.iconst 4, 1) := by decide +kernel
theorem dX8_init_35 : decode cX8_init 35 = .ok (.sipush 29391, 3) := by decide +kernel
theorem dX8_init_38 : decode cX8_init 38 = .ok (.iastore, 1) := by decide +kernel
theorem dX8_init_39 : decode cX8_init 39 = .ok (.dup, 1) := by decide +kernel
theorem dX8_init_40 : decode cX8_init 40 = .ok (.iconst 5, 1) := by decide +kernel
theorem dX8_init_41 : decode cX8_init 41 = .ok (.sipush 4815, 3) := by decide +kernel
theorem dX8_init_44 : decode cX8_init 44 = .ok (.iastore, 1) := by decide +kernel
theorem dX8_init_45 : decode cX8_init 45 = .ok (.dup, 1) := by decide +kernel
theorem dX8_init_46 : decode cX8_init 46 = .ok (.bipush 6, 2) := by decide +kernel
theorem dX8_init_48 : decode cX8_init 48 = .ok (.sipush 27470, 3) := by decide +kernel
theorem dX8_init_51 : decode cX8_init 51 = .ok (.iastore, 1) := by decide +kernel
theorem dX8_init_52 : decode cX8_init 52 = .ok (.dup, 1) := by decide +kernel
theorem dX8_init_53 : decode cX8_init 53 = .ok (.bipush 7, 2) := by decide +kernel
theorem dX8_init_55 : decode cX8_init 55 = .ok (.sipush 23533, 3) := by decide +kernel
theorem dX8_init_58 : decode cX8_init 58 = .ok (.iastore, 1) := by decide +kernel
theorem dX8_init_59 : decode cX8_init 59 = .ok (.dup, 1) := by decide +kernel
theorem dX8_init_60 : decode cX8_init 60 = .ok (.bipush 8, 2) := by decide +kernel
theorem dX8_init_62 : decode cX8_init 62 = .ok (.sipush 29847, 3) := by decide +kernel
theorem dX8_init_65 : decode cX8_init 65 = .ok (.iastore, 1) := by decide +kernel
theorem dX8_init_66 : decode cX8_init 66 = .ok (.dup, 1) := by decide +kernel
theorem dX8_init_67 : decode cX8_init 67 = .ok (.bipush 9, 2) := by decide +kernel
theorem dX8_init_69 : decode cX8_init 69 = .ok (.sipush 11044, 3) := by decide +kernel
theorem dX8_init_72 : decode cX8_init 72 = .ok (.iastore, 1) := by decide +kernel
theorem dX8_init_73 : decode cX8_init 73 = .ok (.dup, 1) := by decide +kernel
theorem dX8_init_74 : decode cX8_init 74 = .ok (.bipush 10, 2) := by decide +kernel
theorem dX8_init_76 : decode cX8_init 76 = .ok (.sipush 23277, 3) := by decide +kernel
theorem dX8_init_79 : decode cX8_init 79 = .ok (.iastore, 1) := by decide +kernel
theorem dX8_init_80 : decode cX8_init 80 = .ok (.dup, 1) := by decide +kernel
theorem dX8_init_81 : decode cX8_init 81 = .ok (.bipush 11, 2) := by decide +kernel
theorem dX8_init_83 : decode cX8_init 83 = .ok (.sipush 31305, 3) := by decide +kernel
theorem dX8_init_86 : decode cX8_init 86 = .ok (.iastore, 1) := by decide +kernel
theorem dX8_init_87 : decode cX8_init 87 = .ok (.dup, 1) := by decide +kernel
theorem dX8_init_88 : decode cX8_init 88 = .ok (.bipush 12, 2) := by decide +kernel
theorem dX8_init_90 : decode cX8_init 90 = .ok (.sipush 23549, 3) := by decide +kernel
theorem dX8_init_93 : decode cX8_init 93 = .ok (.iastore, 1) := by decide +kernel
theorem dX8_init_94 : decode cX8_init 94 = .ok (.dup, 1) := by decide +kernel
theorem dX8_init_95 : decode cX8_init 95 = .ok (.bipush 13, 2) := by decide +kernel
theorem dX8_init_97 : decode cX8_init 97 = .ok (.sipush 23547, 3) := by decide +kernel
theorem dX8_init_100 : decode cX8_init 100 = .ok (.iastore, 1) := by decide +kernel
theorem dX8_init_101 : decode cX8_init 101 = .ok (.dup, 1) := by decide +kernel
theorem dX8_init_102 : decode cX8_init 102 = .ok (.bipush 14, 2) := by decide +kernel
theorem dX8_init_104 : decode cX8_init 104 = .ok (.sipush 11114, 3) := by decide +kernel
theorem dX8_init_107 : decode cX8_init 107 = .ok (.iastore, 1) := by decide +kernel
theorem dX8_init_108 : decode cX8_init 108 = .ok (.dup, 1) := by decide +kernel
theorem dX8_init_109 : decode cX8_init 109 = .ok (.bipush 15, 2) := by decide +kernel
theorem dX8_init_111 : decode cX8_init 111 = .ok (.sipush 5099, 3) := by decide +kernel
theorem dX8_init_114 : decode cX8_init 114 = .ok (.iastore, 1) := by decide +kernel
theorem dX8_init_115 : decode cX8_init 115 = .ok (.dup, 1) := by decide +kernel
theorem dX8_init_116 : decode cX8_init 116 = .ok (.bipush 16, 2) := by decide +kernel
theorem dX8_init_118 : decode cX8_init 118 = .ok (.sipush 26474, 3) := by decide +kernel
theorem dX8_init_121 : decode cX8_init 121 = .ok (.iastore, 1) := by decide +kernel
theorem dX8_init_122 : decode cX8_init 122 = .ok (.dup, 1) := by decide +kernel
theorem dX8_init_123 : decode cX8_init 123 = .ok (.bipush 17, 2) := by decide +kernel
theorem dX8_init_125 : decode cX8_init 125 = .ok (.sipush 22379, 3) := by decide +kernel
theorem dX8_init_128 : decode cX8_init 128 = .ok (.iastore, 1) := by decide +kernel
theorem dX8_init_129 : decode cX8_init 129 = .ok (.dup, 1) := by decide +kernel
theorem dX8_init_130 : decode cX8_init 130 = .ok (.bipush 18, 2) := by decide +kernel
theorem dX8_init_132 : decode cX8_init 132 = .ok (.sipush 14478, 3) := by decide +kernel
theorem dX8_init_135 : decode cX8_init 135 = .ok (.iastore, 1) := by decide +kernel
theorem dX8_init_136 : decode cX8_init 136 = .ok (.dup, 1) := by decide +kernel
theorem dX8_init_137 : decode cX8_init 137 = .ok (.bipush 19, 2) := by decide +kernel
theorem dX8_init_139 : decode cX8_init 139 = .ok (.sipush 9367, 3) := by decide +kernel
theorem dX8_init_142 : decode cX8_init 142 = .ok (.iastore, 1) := by decide +kernel
theorem dX8_init_143 : decode cX8_init 143 = .ok (.dup, 1) := by decide +kernel
theorem dX8_init_144 : decode cX8_init 144 = .ok (.bipush 20, 2) := by decide +kernel
theorem dX8_init_146 : decode cX8_init 146 = .ok (.sipush 27501, 3) := by decide +kernel
theorem dX8_init_149 : decode cX8_init 149 = .ok (.iastore, 1) := by decide +kernel
theorem dX8_init_150 : decode cX8_init 150 = .ok (.dup, 1) := by decide +kernel
theorem dX8_init_151 : decode cX8_init 151 = .ok (.bipush 21, 2) := by decide +kernel
theorem dX8_init_153 : decode cX8_init 153 = .ok (.sipush 11117, 3) := by decide +kernel
theorem dX8_init_156 : decode cX8_init 156 = .ok (.iastore, 1) := by decide +kernel
theorem dX8_init_157 : decode cX8_init 157 = .ok (.dup, 1) := by decide +kernel
theorem dX8_init_158 : decode cX8_init 158 = .ok (.bipush 22, 2) := by decide +kernel
theorem dX8_init_160 : decode cX8_init 160 = .ok (.sipush 24557, 3) := by decide +kernel
theorem dX8_init_163 : decode cX8_init 163 = .ok (.iastore, 1) := by decide +kernel
theorem dX8_init_164 : decode cX8_init 164 = .ok (.dup, 1) := by decide +kernel
theorem dX8_init_165 : decode cX8_init 165 = .ok (.bipush 23, 2) := by decide +kernel
theorem dX8_init_167 : decode cX8_init 167 = .ok (.sipush 23213, 3) := by decide +kernel
theorem dX8_init_170 : decode cX8_init 170 = .ok (.iastore, 1) := by decide +kernel
theorem dX8_init_171 : decode cX8_init 171 = .ok (.dup, 1) := by decide +kernel
theorem dX8_init_172 : decode cX8_init 172 = .ok (.bipush 24, 2) := by decide +kernel
theorem dX8_init_174 : decode cX8_init 174 = .ok (.sipush 9389, 3) := by decide +kernel
theorem dX8_init_177 : decode cX8_init 177 = .ok (.iastore, 1) := by decide +kernel
theorem dX8_init_178 : decode cX8_init 178 = .ok (.dup, 1) := by decide +kernel
theorem dX8_init_179 : decode cX8_init 179 = .ok (.bipush 25, 2) := by decide +kernel
theorem dX8_init_181 : decode cX8_init 181 = .ok (.sipush 29351, 3) := by decide +kernel
theorem dX8_init_184 : decode cX8_init 184 = .ok (.iastore, 1) := by decide +kernel
theorem dX8_init_185 : decode cX8_init 185 = .ok (.putfield 7, 3) := by decide +kernel
theorem dX8_init_188 : decode cX8_init 188 = .ok (.aload_n 0, 1) := by decide +kernel
theorem dX8_init_189 : decode cX8_init 189 = .ok (.bipush 9, 2) := by decide +kernel
theorem dX8_init_191 : decode cX8_init 191 = .ok (.newarray .int, 2) := by decide +kernel
theorem dX8_init_193 : decode cX8_init 193 = .ok (.putfield 13, 3) := by decide +kernel
theorem dX8_init_196 : decode cX8_init 196 = .ok (.aload_n 0, 1) := by decide +kernel
theorem dX8_init_197 : decode cX8_init 197 = .ok (.sipush 135, 3) := by decide +kernel
theorem dX8_init_200 : decode cX8_init 200 = .ok (.newarray .int, 2) := by decide +kernel
theorem dX8_init_202 : decode cX8_init 202 = .ok (.putfield 16, 3) := by decide +kernel
theorem dX8_init_205 : decode cX8_init 205 = .ok (.aload_n 0, 1) := by decide +kernel
theorem dX8_init_206 : decode cX8_init 206 = .ok (.bipush 6, 2) := by decide +kernel
theorem dX8_init_208 : decode cX8_init 208 = .ok (.newarray .int, 2) := by decide +kernel
theorem dX8_init_210 : decode cX8_init 210 = .ok (.putfield 19, 3) := by decide +kernel
theorem dX8_init_213 : decode cX8_init 213 = .ok (.aload_n 0, 1) := by decide +kernel
theorem dX8_init_214 : decode cX8_init 214 = .ok (.iconst 4, 1) := by decide +kernel
theorem dX8_init_215 : decode cX8_init 215 = .ok (.newarray .int, 2) := by decide +kernel
theorem dX8_init_217 : decode cX8_init 217 = .ok (.putfield 22, 3) := by decide +kernel
theorem dX8_init_220 : decode cX8_init 220 = .ok (.aload_n 0, 1) := by decide +kernel
theorem dX8_init_221 : decode cX8_init 221 = .ok (.bipush 36, 2) := by decide +kernel
theorem dX8_init_223 : decode cX8_init 223 = .ok (.newarray .int, 2) := by decide +kernel
theorem dX8_init_225 : decode cX8_init 225 = .ok (.putfield 25, 3) := by decide +kernel
theorem dX8_init_228 : decode cX8_init 228 = .ok (.aload_n 0, 1) := by decide +kernel
theorem dX8_init_229 : decode cX8_init 229 = .ok (.bipush 80, 2) := by decide +kernel
theorem dX8_init_231 : decode cX8_init 231 = .ok (.newarray .int, 2) := by decide +kernel
theorem dX8_init_233 : decode cX8_init 233 = .ok (.putfield 28, 3) := by decide +kernel
theorem dX8_init_236 : decode cX8_init 236 = .ok (.aload_n 0, 1) := by decide +kernel
theorem dX8_init_237 : decode cX8_init 237 = .ok (.bipush 80, 2) := by decide +kernel
theorem dX8_init_239 : decode cX8_init 239 = .ok (.newarray .int, 2) := by decide +kernel
theorem dX8_init_241 : decode cX8_init 241 = .ok (.putfield 31, 3) := by decide +kernel
theorem dX8_init_244 : decode cX8_init 244 = .ok (.aload_n 0, 1) := by decide +kernel
theorem dX8_init_245 : decode cX8_init 245 = .ok (.bipush 40, 2) := by decide +kernel
theorem dX8_init_247 : decode cX8_init 247 = .ok (.newarray .int, 2) := by decide +kernel
theorem dX8_init_249 : decode cX8_init 249 = .ok (.putfield 34, 3) := by decide +kernel
theorem dX8_init_252 : decode cX8_init 252 = .ok (.aload_n 0, 1) := by decide +kernel
theorem dX8_init_253 : decode cX8_init 253 = .ok (.bipush 10, 2) := by decide +kernel
theorem dX8_init_255 : decode cX8_init 255 = .ok (.newarray .int, 2) := by decide +kernel
theorem dX8_init_257 : decode cX8_init 257 = .ok (.putfield 37, 3) := by decide +kernel
theorem dX8_init_260 : decode cX8_init 260 = .ok (.aload_n 0, 1) := by decide +kernel
theorem dX8_init_261 : decode cX8_init 261 = .ok (.bipush 9, 2) := by decide +kernel
theorem dX8_init_263 : decode cX8_init 263 = .ok (.newarray .int, 2) := by decide +kernel
theorem dX8_init_265 : decode cX8_init 265 = .ok (.putfield 40, 3) := by decide +kernel
theorem dX8_init_268 : decode cX8_init 268 = .ok (.aload_n 0, 1) := by decide +kernel
theorem dX8_init_269 : decode cX8_init 269 = .ok (.bipush 90, 2) := by decide +kernel
theorem dX8_init_271 : decode cX8_init 271 = .ok (.newarray .int, 2) := by decide +kernel
theorem dX8_init_273 : decode cX8_init 273 = .ok (.putfield 43, 3) := by decide +kernel
theorem dX8_init_276 : decode cX8_init 276 = .ok (.aload_n 0, 1) := by decide +kernel
theorem dX8_init_277 : decode cX8_init 277 = .ok (.bipush 90, 2) := by decide +kernel
theorem dX8_init_279 : decode cX8_init 279 = .ok (.newarray .int, 2) := by decide +kernel
theorem dX8_init_281 : decode cX8_init 281 = .ok (.putfield 46, 3) := by decide +kernel
theorem dX8_init_284 : decode cX8_init 284 = .ok (.aload_n 0, 1) := by decide +kernel
theorem dX8_init_285 : decode cX8_init 285 = .ok (.bipush 26, 2) := by decide +kernel
theorem dX8_init_287 : decode cX8_init 287 = .ok (.newarray .long, 2) := by decide +kernel
theorem dX8_init_289 : decode cX8_init 289 = .ok (.putfield 49, 3) := by decide +kernel
theorem dX8_init_292 : decode cX8_init 292 = .ok (.aload_n 0, 1) := by decide +kernel
theorem dX8_init_293 : decode cX8_init 293 = .ok (.sipush 135, 3) := by decide +kernel
theorem dX8_init_296 : decode cX8_init 296 = .ok (.newarray .int, 2) := by decide +kernel
theorem dX8_init_298 : decode cX8_init 298 = .ok (.putfield 53, 3) := by decide +kernel
theorem dX8_init_301 : decode cX8_init 301 = .ok (.aload_n 0, 1) := by decide +kernel
theorem dX8_init_302 : decode cX8_init 302 = .ok (.sipush 270, 3) := by decide +kernel
theorem dX8_init_305 : decode cX8_init 305 = .ok (.newarray .int, 2) := by decide +kernel
theorem dX8_init_307 : decode cX8_init 307 = .ok (.putfield 56, 3) := by decide +kernel
theorem dX8_init_310 : decode cX8_init 310 = .ok (.aload_n 0, 1) := by decide +kernel
theorem dX8_init_311 : decode cX8_init 311 = .ok (.iconst 2, 1) := by decide +kernel
theorem dX8_init_312 : decode cX8_init 312 = .ok (.newarray .int, 2) := by decide +kernel
theorem dX8_init_314 : decode cX8_init 314 = .ok (.putfield 59, 3) := by decide +kernel
theorem dX8_init_317 : decode cX8_init 317 = .ok (.aload_n 0, 1) := by decide +kernel
theorem dX8_init_318 : decode cX8_init 318 = .ok (.iconst 4, 1) := by decide +kernel
theorem dX8_init_319 : decode cX8_init 319 = .ok (.newarray .int, 2) := by decide +kernel
theorem dX8_init_321 : decode cX8_init 321 = .ok (.putfield 62, 3) := by decide +kernel
theorem dX8_init_324 : decode cX8_init 324 = .ok (.aload_n 0, 1) := by decide +kernel
theorem dX8_init_325 : decode cX8_init 325 = .ok (.iconst 4, 1) := by decide +kernel
theorem dX8_init_326 : decode cX8_init 326 = .ok (.newarray .int, 2) := by decide +kernel
theorem dX8_init_328 : decode cX8_init 328 = .ok (.putfield 65, 3) := by decide +kernel
theorem dX8_init_331 : decode cX8_init 331 = .ok (.aload_n 0, 1) := by decide +kernel
theorem dX8_init_332 : decode cX8_init 332 = .ok (.bipush 96, 2) := by decide +kernel
theorem dX8_init_334 : decode cX8_init 334 = .ok (.newarray .int, 2) := by decide +kernel
theorem dX8_init_336 : decode cX8_init 336 = .ok (.putfield 68, 3) := by decide +kernel
theorem dX8_init_339 : decode cX8_init 339 = .ok (.iconst 0, 1) := by decide +kernel
theorem dX8_init_340 : decode cX8_init 340 = .ok (.istore_n 1, 1) := by decide +kernel
theorem dX8_init_341 : decode cX8_init 341 = .ok (.iload_n 1, 1) := by decide +kernel
theorem dX8_init_342 : decode cX8_init 342 = .ok (.iconst 4, 1) := by decide +kernel
theorem dX8_init_343 : decode cX8_init 343 = .ok (.if_icmp .ge 16, 3) := by decide +kernel
theorem dX8_init_346 : decode cX8_init 346 = .ok (.aload_n 0, 1) := by decide +kernel
theorem dX8_init_347 : decode cX8_init 347 = .ok (.getfield 62, 3) := by decide +kernel
theorem dX8_init_350 : decode cX8_init 350 = .ok (.iload_n 1, 1) := by decide +kernel
theorem dX8_init_351 : decode cX8_init 351 = .ok (.iconst (-1), 1) := by decide +kernel
theorem dX8_init_352 : decode cX8_init 352 = .ok (.iastore, 1) := by decide +kernel
theorem dX8_init_353 : decode cX8_init 353 = .ok (.iinc 1 1, 3) := by decide +kernel
theorem dX8_init_356 : decode cX8_init 356 = .ok (.goto (-15), 3) := by decide +kernel
theorem dX8_init_359 : decode cX8_init 359 = .ok (.aload_n 0, 1) := by decide +kernel
theorem dX8_init_360 : decode cX8_init 360 = .ok (.getfield 22, 3) := by decide +kernel
theorem dX8_init_363 : decode cX8_init 363 = .ok (.iconst 0, 1) := by decide +kernel
theorem dX8_init_364 : decode cX8_init 364 = .ok (.iconst 2, 1) := by decide +kernel
theorem dX8_init_365 : decode cX8_init 365 = .ok (.iastore, 1) := by decide +kernel
theorem dX8_init_366 : decode cX8_init 366 = .ok (.aload_n 0, 1) := by decide +kernel
theorem dX8_init_367 : decode cX8_init 367 = .ok (.getfield 22, 3) := by decide +kernel
theorem dX8_init_370 : decode cX8_init 370 = .ok (.iconst 1, 1) := by decide +kernel
theorem dX8_init_371 : decode cX8_init 371 = .ok (.iconst 2, 1) := by decide +kernel
theorem dX8_init_372 : decode cX8_init 372 = .ok (.iastore, 1) := by decide +kernel
theorem dX8_init_373 : decode cX8_init 373 = .ok (.aload_n 0, 1) := by decide +kernel
theorem dX8_init_374 : decode cX8_init 374 = .ok (.getfield 22, 3) := by decide +kernel
theorem dX8_init_377 : decode cX8_init 377 = .ok (.iconst 2, 1) := by decide +kernel
theorem dX8_init_378 : decode cX8_init 378 = .ok (.iconst 3, 1) := by decide +kernel
theorem dX8_init_379 : decode cX8_init 379 = .ok (.iastore, 1) := by decide +kernel
theorem dX8_init_380 : decode cX8_init 380 = .ok (.aload_n 0, 1) := by decide +kernel
theorem dX8_init_381 : decode cX8_init 381 = .ok (.getfield 22, 3) := by decide +kernel
theorem dX8_init_384 : decode cX8_init 384 = .ok (.iconst 3, 1) := by decide +kernel
theorem dX8_init_385 : decode cX8_init 385 = .ok (.iconst 1, 1) := by decide +kernel
theorem dX8_init_386 : decode cX8_init 386 = .ok (.iastore, 1) := by decide +kernel
theorem dX8_init_387 : decode cX8_init 387 = .ok (.return_, 1) := by decide +kernel
theorem dX8_in_0 : decode cX8_in 0 = .ok (.lload_n 0, 1) := by decide +kernel
theorem dX8_in_1 : decode cX8_in 1 = .ok (.lload_n 2, 1) := by decide +kernel
theorem dX8_in_2 : decode cX8_in 2 = .ok (.lcmp, 1) := by decide +kernel
theorem dX8_in_3 : decode cX8_in 3 = .ok (.ifCond .lt 14, 3) := by decide +kernel
theorem dX8_in_6 : decode cX8_in 6 = .ok (.lload_n 0, 1) := by decide +kernel
theorem dX8_in_7 : decode cX8_in 7 = .ok (.lload 4, 2) := by decide +kernel
theorem dX8_in_9 : decode cX8_in 9 = .ok (.lcmp, 1) := by decide +kernel
theorem dX8_in_10 : decode cX8_in 10 = .ok (.ifCond .gt 7, 3) := by decide +kernel
theorem dX8_in_13 : decode cX8_in 13 = .ok (.iconst 1, 1) := by decide +kernel
theorem dX8_in_14 : decode cX8_in 14 = .ok (.goto 4, 3) := by decide +kernel
theorem dX8_in_17 : decode cX8_in 17 = .ok (.iconst 0, 1) := by decide +kernel
theorem dX8_in_18 : decode cX8_in 18 = .ok (.ireturn, 1) := by decide +kernel
theorem dX8_has_0 : decode cX8_has 0 = .ok (.iload_n 0, 1) := by decide +kernel
theorem dX8_has_1 : decode cX8_has 1 = .ok (.iload_n 1, 1) := by decide +kernel
theorem dX8_has_2 : decode cX8_has 2 = .ok (.ishr, 1) := by decide +kernel
theorem dX8_has_3 : decode cX8_has 3 = .ok (.iconst 1, 1) := by decide +kernel
theorem dX8_has_4 : decode cX8_has 4 = .ok (.iand, 1) := by decide +kernel
theorem dX8_has_5 : decode cX8_has 5 = .ok (.iconst 1, 1) := by decide +kernel
theorem dX8_has_6 : decode cX8_has 6 = .ok (.if_icmp .ne 7, 3) := by decide +kernel
theorem dX8_has_9 : decode cX8_has 9 = .ok (.iconst 1, 1) := by decide +kernel
theorem dX8_has_10 : decode cX8_has 10 = .ok (.goto 4, 3) := by decide +kernel
theorem dX8_has_13 : decode cX8_has 13 = .ok (.iconst 0, 1) := by decide +kernel
theorem dX8_has_14 : decode cX8_has 14 = .ok (.ireturn, 1) := by decide +kernel
theorem dX8_ones_0 : decode cX8_ones 0 = .ok (.iconst 0, 1) := by decide +kernel
theorem dX8_ones_1 : decode cX8_ones 1 = .ok (.istore_n 1, 1) := by decide +kernel
theorem dX8_ones_2 : decode cX8_ones 2 = .ok (.iload_n 0, 1) := by decide +kernel
theorem dX8_ones_3 : decode cX8_ones 3 = .ok (.istore_n 2, 1) := by decide +kernel
theorem dX8_ones_4 : decode cX8_ones 4 = .ok (.iload_n 2, 1) := by decide +kernel
theorem dX8_ones_5 : decode cX8_ones 5 = .ok (.ifCond .eq 15, 3) := by decide +kernel
theorem dX8_ones_8 : decode cX8_ones 8 = .ok (.iinc 1 1, 3) := by decide +kernel
theorem dX8_ones_11 : decode cX8_ones 11 = .ok (.iload_n 2, 1) := by decide +kernel
theorem dX8_ones_12 : decode cX8_ones 12 = .ok (.iload_n 2, 1) := by decide +kernel
theorem dX8_ones_13 : decode cX8_ones 13 = .ok (.iconst 1, 1) := by decide +kernel
theorem dX8_ones_14 : decode cX8_ones 14 = .ok (.isub, 1) := by decide +kernel
theorem dX8_ones_15 : decode cX8_ones 15 = .ok (.iand, 1) := by decide +kernel
theorem dX8_ones_16 : decode cX8_ones 16 = .ok (.istore_n 2, 1) := by decide +kernel
theorem dX8_ones_17 : decode cX8_ones 17 = .ok (.goto (-13), 3) := by decide +kernel
theorem dX8_ones_20 : decode cX8_ones 20 = .ok (.iload_n 1, 1) := by decide +kernel
theorem dX8_ones_21 : decode cX8_ones 21 = .ok (.ireturn, 1) := by decide +kernel
theorem dX8_isStrip_0 : decode cX8_isStrip 0 = .ok (.iload_n 1, 1) := by decide +kernel
theorem dX8_isStrip_1 : decode cX8_isStrip 1 = .ok (.i2l, 1) := by decide +kernel
theorem dX8_isStrip_2 : decode cX8_isStrip 2 = .ok (.lconst 0, 1) := by decide +kernel
theorem dX8_isStrip_3 : decode cX8_isStrip 3 = .ok (.aload_n 0, 1) := by decide +kernel
theorem dX8_isStrip_4 : decode cX8_isStrip 4 = .ok (.getfield 71, 3) := by decide +kernel
theorem dX8_isStrip_7 : decode cX8_isStrip 7 = .ok (.iconst 1, 1) := by decide +kernel
theorem dX8_isStrip_8 : decode cX8_isStrip 8 = .ok (.isub, 1) := by decide +kernel
theorem dX8_isStrip_9 : decode cX8_isStrip 9 = .ok (.i2l, 1) := by decide +kernel
theorem dX8_isStrip_10 : decode cX8_isStrip 10 = .ok (.invokestatic 75, 3) := by decide +kernel
theorem dX8_isStrip_13 : decode cX8_isStrip 13 = .ok (.ireturn, 1) := by decide +kernel
theorem dX8_isCell_0 : decode cX8_isCell 0 = .ok (.iload_n 0, 1) := by decide +kernel
theorem dX8_isCell_1 : decode cX8_isCell 1 = .ok (.i2l, 1) := by decide +kernel
theorem dX8_isCell_2 : decode cX8_isCell 2 = .ok (.lconst 0, 1) := by decide +kernel
theorem dX8_isCell_3 : decode cX8_isCell 3 = .ok (.ldc2_w 79, 3) := by decide +kernel
theorem dX8_isCell_6 : decode cX8_isCell 6 = .ok (.invokestatic 75, 3) := by decide +kernel
theorem dX8_isCell_9 : decode cX8_isCell 9 = .ok (.ireturn, 1) := by decide +kernel
theorem dX8_isLetter_0 : decode cX8_isLetter 0 = .ok (.iload_n 0, 1) := by decide +kernel
theorem dX8_isLetter_1 : decode cX8_isLetter 1 = .ok (.i2l, 1) := by decide +kernel
theorem dX8_isLetter_2 : decode cX8_isLetter 2 = .ok (.lconst 0, 1) := by decide +kernel
theorem dX8_isLetter_3 : decode cX8_isLetter 3 = .ok (.ldc2_w 81, 3) := by decide +kernel
theorem dX8_isLetter_6 : decode cX8_isLetter 6 = .ok (.invokestatic 75, 3) := by decide +kernel
theorem dX8_isLetter_9 : decode cX8_isLetter 9 = .ok (.ireturn, 1) := by decide +kernel
theorem dX8_isWord_0 : decode cX8_isWord 0 = .ok (.iload_n 1, 1) := by decide +kernel
theorem dX8_isWord_1 : decode cX8_isWord 1 = .ok (.i2l, 1) := by decide +kernel
theorem dX8_isWord_2 : decode cX8_isWord 2 = .ok (.lconst 0, 1) := by decide +kernel
theorem dX8_isWord_3 : decode cX8_isWord 3 = .ok (.aload_n 0, 1) := by decide +kernel
theorem dX8_isWord_4 : decode cX8_isWord 4 = .ok (.getfield 83, 3) := by decide +kernel
theorem dX8_isWord_7 : decode cX8_isWord 7 = .ok (.iconst 1, 1) := by decide +kernel
theorem dX8_isWord_8 : decode cX8_isWord 8 = .ok (.isub, 1) := by decide +kernel
theorem dX8_isWord_9 : decode cX8_isWord 9 = .ok (.i2l, 1) := by decide +kernel
theorem dX8_isWord_10 : decode cX8_isWord 10 = .ok (.invokestatic 75, 3) := by decide +kernel
theorem dX8_isWord_13 : decode cX8_isWord 13 = .ok (.ireturn, 1) := by decide +kernel
theorem dX8_addStrip_0 : decode cX8_addStrip 0 = .ok (.aload_n 0, 1) := by decide +kernel
theorem dX8_addStrip_1 : decode cX8_addStrip 1 = .ok (.getfield 13, 3) := by decide +kernel
theorem dX8_addStrip_4 : decode cX8_addStrip 4 = .ok (.aload_n 0, 1) := by decide +kernel
theorem dX8_addStrip_5 : decode cX8_addStrip 5 = .ok (.getfield 71, 3) := by decide +kernel
theorem dX8_addStrip_8 : decode cX8_addStrip 8 = .ok (.iload_n 1, 1) := by decide +kernel
theorem dX8_addStrip_9 : decode cX8_addStrip 9 = .ok (.iastore, 1) := by decide +kernel
theorem dX8_addStrip_10 : decode cX8_addStrip 10 = .ok (.iconst 0, 1) := by decide +kernel
theorem dX8_addStrip_11 : decode cX8_addStrip 11 = .ok (.istore_n 2, 1) := by decide +kernel
theorem dX8_addStrip_12 : decode cX8_addStrip 12 = .ok (.iload_n 2, 1) := by decide +kernel
theorem dX8_addStrip_13 : decode cX8_addStrip 13 = .ok (.bipush 15, 2) := by decide +kernel
theorem dX8_addStrip_15 : decode cX8_addStrip 15 = .ok (.if_icmp .ge 24, 3) := by decide +kernel
theorem dX8_addStrip_18 : decode cX8_addStrip 18 = .ok (.aload_n 0, 1) := by decide +kernel
theorem dX8_addStrip_19 : decode cX8_addStrip 19 = .ok (.getfield 16, 3) := by decide +kernel
theorem dX8_addStrip_22 : decode cX8_addStrip 22 = .ok (.bipush 15, 2) := by decide +kernel
theorem dX8_addStrip_24 : decode cX8_addStrip 24 = .ok (.aload_n 0, 1) := by decide +kernel
theorem dX8_addStrip_25 : decode cX8_addStrip 25 = .ok (.getfield 71, 3) := by decide +kernel
theorem dX8_addStrip_28 : decode cX8_addStrip 28 = .ok (.imul, 1) := by decide +kernel
theorem dX8_addStrip_29 : decode cX8_addStrip 29 = .ok (.iload_n 2, 1) := by decide +kernel
theorem dX8_addStrip_30 : decode cX8_addStrip 30 = .ok (.iadd, 1) := by decide +kernel
theorem dX8_addStrip_31 : decode cX8_addStrip 31 = .ok (.iconst 5, 1) := by decide +kernel
theorem dX8_addStrip_32 : decode cX8_addStrip 32 = .ok (.iastore, 1) := by decide +kernel
theorem dX8_addStrip_33 : decode cX8_addStrip 33 = .ok (.iinc 2 1, 3) := by decide +kernel
theorem dX8_addStrip_36 : decode cX8_addStrip 36 = .ok (.goto (-24), 3) := by decide +kernel
theorem dX8_addStrip_39 : decode cX8_addStrip 39 = .ok (.aload_n 0, 1) := by decide +kernel
theorem dX8_addStrip_40 : decode cX8_addStrip 40 = .ok (.dup, 1) := by decide +kernel
theorem dX8_addStrip_41 : decode cX8_addStrip 41 = .ok (.getfield 71, 3) := by decide +kernel
theorem dX8_addStrip_44 : decode cX8_addStrip 44 = .ok (.iconst 1, 1) := by decide +kernel
theorem dX8_addStrip_45 : decode cX8_addStrip 45 = .ok (.iadd, 1) := by decide +kernel
theorem dX8_addStrip_46 : decode cX8_addStrip 46 = .ok (.putfield 71, 3) := by decide +kernel
theorem dX8_addStrip_49 : decode cX8_addStrip 49 = .ok (.return_, 1) := by decide +kernel
theorem dX8_strip_0 : decode cX8_strip 0 = .ok (.iload_n 1, 1) := by decide +kernel
theorem dX8_strip_1 : decode cX8_strip 1 = .ok (.i2l, 1) := by decide +kernel
theorem dX8_strip_2 : decode cX8_strip 2 = .ok (.lconst 0, 1) := by decide +kernel
theorem dX8_strip_3 : decode cX8_strip 3 = .ok (.ldc2_w 86, 3) := by decide +kernel
theorem dX8_strip_6 : decode cX8_strip 6 = .ok (.invokestatic 75, 3) := by decide +kernel
theorem dX8_strip_9 : decode cX8_strip 9 = .ok (.ifCond .ne 5, 3) := by decide +kernel
theorem dX8_strip_12 : decode cX8_strip 12 = .ok (.iconst (-1), 1) := by decide +kernel
theorem dX8_strip_13 : decode cX8_strip 13 = .ok (.ireturn, 1) := by decide +kernel
theorem dX8_strip_14 : decode cX8_strip 14 = .ok (.aload_n 0, 1) := by decide +kernel
theorem dX8_strip_15 : decode cX8_strip 15 = .ok (.getfield 71, 3) := by decide +kernel
theorem dX8_strip_18 : decode cX8_strip 18 = .ok (.bipush 9, 2) := by decide +kernel
theorem dX8_strip_20 : decode cX8_strip 20 = .ok (.if_icmp .ne 6, 3) := by decide +kernel
theorem dX8_strip_23 : decode cX8_strip 23 = .ok (.bipush (-3), 2) := by decide +kernel
theorem dX8_strip_25 : decode cX8_strip 25 = .ok (.ireturn, 1) := by decide +kernel
theorem dX8_strip_26 : decode cX8_strip 26 = .ok (.aload_n 0, 1) := by decide +kernel
theorem dX8_strip_27 : decode cX8_strip 27 = .ok (.iload_n 1, 1) := by decide +kernel
theorem dX8_strip_28 : decode cX8_strip 28 = .ok (.invokevirtual 88, 3) := by decide +kernel
theorem dX8_strip_31 : decode cX8_strip 31 = .ok (.aload_n 0, 1) := by decide +kernel
theorem dX8_strip_32 : decode cX8_strip 32 = .ok (.getfield 71, 3) := by decide +kernel
theorem dX8_strip_35 : decode cX8_strip 35 = .ok (.iconst 1, 1) := by decide +kernel
theorem dX8_strip_36 : decode cX8_strip 36 = .ok (.isub, 1) := by decide +kernel
theorem dX8_strip_37 : decode cX8_strip 37 = .ok (.ireturn, 1) := by decide +kernel
theorem dX8_set_0 : decode cX8_set 0 = .ok (.iload_n 1, 1) := by decide +kernel
theorem dX8_set_1 : decode cX8_set 1 = .ok (.ifCond .ne 7, 3) := by decide +kernel
theorem dX8_set_4 : decode cX8_set 4 = .ok (.iconst 5, 1) := by decide +kernel
theorem dX8_set_5 : decode cX8_set 5 = .ok (.goto 25, 3) := by decide +kernel
theorem dX8_set_8 : decode cX8_set 8 = .ok (.iload_n 1, 1) := by decide +kernel
theorem dX8_set_9 : decode cX8_set 9 = .ok (.iconst 1, 1) := by decide +kernel
theorem dX8_set_10 : decode cX8_set 10 = .ok (.if_icmp .ne 8, 3) := by decide +kernel
theorem dX8_set_13 : decode cX8_set 13 = .ok (.bipush 8, 2) := by decide +kernel
theorem dX8_set_15 : decode cX8_set 15 = .ok (.goto 15, 3) := by decide +kernel
theorem dX8_set_18 : decode cX8_set 18 = .ok (.iload_n 1, 1) := by decide +kernel
theorem dX8_set_19 : decode cX8_set 19 = .ok (.iconst 2, 1) := by decide +kernel
theorem dX8_set_20 : decode cX8_set 20 = .ok (.if_icmp .ne 8, 3) := by decide +kernel
theorem dX8_set_23 : decode cX8_set 23 = .ok (.bipush 7, 2) := by decide +kernel
theorem dX8_set_25 : decode cX8_set 25 = .ok (.goto 5, 3) := by decide +kernel
theorem dX8_set_28 : decode cX8_set 28 = .ok (.bipush 9, 2) := by decide +kernel
theorem dX8_set_30 : decode cX8_set 30 = .ok (.istore_n 3, 1) := by decide +kernel
theorem dX8_set_31 : decode cX8_set 31 = .ok (.iload_n 1, 1) := by decide +kernel
theorem dX8_set_32 : decode cX8_set 32 = .ok (.i2l, 1) := by decide +kernel
theorem dX8_set_33 : decode cX8_set 33 = .ok (.lconst 0, 1) := by decide +kernel
theorem dX8_set_34 : decode cX8_set 34 = .ok (.ldc2_w 92, 3) := by decide +kernel
theorem dX8_set_37 : decode cX8_set 37 = .ok (.invokestatic 75, 3) := by decide +kernel
theorem dX8_set_40 : decode cX8_set 40 = .ok (.ifCond .eq 14, 3) := by decide +kernel
theorem dX8_set_43 : decode cX8_set 43 = .ok (.iload_n 2, 1) := by decide +kernel
theorem dX8_set_44 : decode cX8_set 44 = .ok (.i2l, 1) := by decide +kernel
theorem dX8_set_45 : decode cX8_set 45 = .ok (.lconst 0, 1) := by decide +kernel
theorem dX8_set_46 : decode cX8_set 46 = .ok (.iload_n 3, 1) := by decide +kernel
theorem dX8_set_47 : decode cX8_set 47 = .ok (.i2l, 1) := by decide +kernel
theorem dX8_set_48 : decode cX8_set 48 = .ok (.invokestatic 75, 3) := by decide +kernel
theorem dX8_set_51 : decode cX8_set 51 = .ok (.ifCond .ne 5, 3) := by decide +kernel
theorem dX8_set_54 : decode cX8_set 54 = .ok (.iconst (-1), 1) := by decide +kernel
theorem dX8_set_55 : decode cX8_set 55 = .ok (.ireturn, 1) := by decide +kernel
theorem dX8_set_56 : decode cX8_set 56 = .ok (.aload_n 0, 1) := by decide +kernel
theorem dX8_set_57 : decode cX8_set 57 = .ok (.getfield 22, 3) := by decide +kernel
theorem dX8_set_60 : decode cX8_set 60 = .ok (.iload_n 1, 1) := by decide +kernel
theorem dX8_set_61 : decode cX8_set 61 = .ok (.iaload, 1) := by decide +kernel
theorem dX8_set_62 : decode cX8_set 62 = .ok (.istore 4, 2) := by decide +kernel
theorem dX8_set_64 : decode cX8_set 64 = .ok (.aload_n 0, 1) := by decide +kernel
theorem dX8_set_65 : decode cX8_set 65 = .ok (.getfield 22, 3) := by decide +kernel
theorem dX8_set_68 : decode cX8_set 68 = .ok (.iload_n 1, 1) := by decide +kernel
theorem dX8_set_69 : decode cX8_set 69 = .ok (.iload_n 2, 1) := by decide +kernel
theorem dX8_set_70 : decode cX8_set 70 = .ok (.iastore, 1) := by decide +kernel
theorem dX8_set_71 : decode cX8_set 71 = .ok (.iload 4, 2) := by decide +kernel
theorem dX8_set_73 : decode cX8_set 73 = .ok (.ireturn, 1) := by decide +kernel
theorem dX8_grass_0 : decode cX8_grass 0 = .ok (.aload_n 0, 1) := by decide +kernel
theorem dX8_grass_1 : decode cX8_grass 1 = .ok (.iload_n 1, 1) := by decide +kernel
theorem dX8_grass_2 : decode cX8_grass 2 = .ok (.invokevirtual 94, 3) := by decide +kernel
theorem dX8_grass_5 : decode cX8_grass 5 = .ok (.ifCond .eq 24, 3) := by decide +kernel
theorem dX8_grass_8 : decode cX8_grass 8 = .ok (.iload_n 2, 1) := by decide +kernel
theorem dX8_grass_9 : decode cX8_grass 9 = .ok (.invokestatic 98, 3) := by decide +kernel
theorem dX8_grass_12 : decode cX8_grass 12 = .ok (.ifCond .eq 17, 3) := by decide +kernel
theorem dX8_grass_15 : decode cX8_grass 15 = .ok (.aload_n 0, 1) := by decide +kernel
theorem dX8_grass_16 : decode cX8_grass 16 = .ok (.getfield 16, 3) := by decide +kernel
theorem dX8_grass_19 : decode cX8_grass 19 = .ok (.bipush 15, 2) := by decide +kernel
theorem dX8_grass_21 : decode cX8_grass 21 = .ok (.iload_n 1, 1) := by decide +kernel
theorem dX8_grass_22 : decode cX8_grass 22 = .ok (.imul, 1) := by decide +kernel
theorem dX8_grass_23 : decode cX8_grass 23 = .ok (.iload_n 2, 1) := by decide +kernel
theorem dX8_grass_24 : decode cX8_grass 24 = .ok (.iadd, 1) := by decide +kernel
theorem dX8_grass_25 : decode cX8_grass 25 = .ok (.iaload, 1) := by decide +kernel
theorem dX8_grass_26 : decode cX8_grass 26 = .ok (.goto 4, 3) := by decide +kernel
theorem dX8_grass_29 : decode cX8_grass 29 = .ok (.iconst (-1), 1) := by decide +kernel
theorem dX8_grass_30 : decode cX8_grass 30 = .ok (.ireturn, 1) := by decide +kernel
theorem dX8_letter_0 : decode cX8_letter 0 = .ok (.iload_n 1, 1) := by decide +kernel
theorem dX8_letter_1 : decode cX8_letter 1 = .ok (.invokestatic 101, 3) := by decide +kernel
theorem dX8_letter_4 : decode cX8_letter 4 = .ok (.ifCond .eq 12, 3) := by decide +kernel
theorem dX8_letter_7 : decode cX8_letter 7 = .ok (.aload_n 0, 1) := by decide +kernel
theorem dX8_letter_8 : decode cX8_letter 8 = .ok (.getfield 7, 3) := by decide +kernel
theorem dX8_letter_11 : decode cX8_letter 11 = .ok (.iload_n 1, 1) := by decide +kernel
theorem dX8_letter_12 : decode cX8_letter 12 = .ok (.iaload, 1) := by decide +kernel
theorem dX8_letter_13 : decode cX8_letter 13 = .ok (.goto 4, 3) := by decide +kernel
theorem dX8_letter_16 : decode cX8_letter 16 = .ok (.iconst (-1), 1) := by decide +kernel
theorem dX8_letter_17 : decode cX8_letter 17 = .ok (.ireturn, 1) := by decide +kernel
theorem dX8_seenOf_0 : decode cX8_seenOf 0 = .ok (.iconst 0, 1) := by decide +kernel
theorem dX8_seenOf_1 : decode cX8_seenOf 1 = .ok (.istore_n 2, 1) := by decide +kernel
theorem dX8_seenOf_2 : decode cX8_seenOf 2 = .ok (.iconst 0, 1) := by decide +kernel
theorem dX8_seenOf_3 : decode cX8_seenOf 3 = .ok (.istore_n 3, 1) := by decide +kernel
theorem dX8_seenOf_4 : decode cX8_seenOf 4 = .ok (.iload_n 3, 1) := by decide +kernel
theorem dX8_seenOf_5 : decode cX8_seenOf 5 = .ok (.bipush 15, 2) := by decide +kernel
theorem dX8_seenOf_7 : decode cX8_seenOf 7 = .ok (.if_icmp .ge 39, 3) := by decide +kernel
theorem dX8_seenOf_10 : decode cX8_seenOf 10 = .ok (.iload_n 2, 1) := by decide +kernel
theorem dX8_seenOf_11 : decode cX8_seenOf 11 = .ok (.aload_n 0, 1) := by decide +kernel
theorem dX8_seenOf_12 : decode cX8_seenOf 12 = .ok (.getfield 16, 3) := by decide +kernel
theorem dX8_seenOf_15 : decode cX8_seenOf 15 = .ok (.bipush 15, 2) := by decide +kernel
theorem dX8_seenOf_17 : decode cX8_seenOf 17 = .ok (.iload_n 1, 1) := by decide +kernel
theorem dX8_seenOf_18 : decode cX8_seenOf 18 = .ok (.imul, 1) := by decide +kernel
theorem dX8_seenOf_19 : decode cX8_seenOf 19 = .ok (.iload_n 3, 1) := by decide +kernel
theorem dX8_seenOf_20 : decode cX8_seenOf 20 = .ok (.iadd, 1) := by decide +kernel
theorem dX8_seenOf_21 : decode cX8_seenOf 21 = .ok (.iaload, 1) := by decide +kernel
theorem dX8_seenOf_22 : decode cX8_seenOf 22 = .ok (.aload_n 0, 1) := by decide +kernel
theorem dX8_seenOf_23 : decode cX8_seenOf 23 = .ok (.getfield 22, 3) := by decide +kernel
theorem dX8_seenOf_26 : decode cX8_seenOf 26 = .ok (.iconst 1, 1) := by decide +kernel
theorem dX8_seenOf_27 : decode cX8_seenOf 27 = .ok (.iaload, 1) := by decide +kernel
theorem dX8_seenOf_28 : decode cX8_seenOf 28 = .ok (.if_icmp .gt 9, 3) := by decide +kernel
theorem dX8_seenOf_31 : decode cX8_seenOf 31 = .ok (.iconst 1, 1) := by decide +kernel
theorem dX8_seenOf_32 : decode cX8_seenOf 32 = .ok (.iload_n 3, 1) := by decide +kernel
theorem dX8_seenOf_33 : decode cX8_seenOf 33 = .ok (.ishl, 1) := by decide +kernel
theorem dX8_seenOf_34 : decode cX8_seenOf 34 = .ok (.goto 4, 3) := by decide +kernel
theorem dX8_seenOf_37 : decode cX8_seenOf 37 = .ok (.iconst 0, 1) := by decide +kernel
theorem dX8_seenOf_38 : decode cX8_seenOf 38 = .ok (.ior, 1) := by decide +kernel
theorem dX8_seenOf_39 : decode cX8_seenOf 39 = .ok (.istore_n 2, 1) := by decide +kernel
theorem dX8_seenOf_40 : decode cX8_seenOf 40 = .ok (.iinc 3 1, 3) := by decide +kernel
theorem dX8_seenOf_43 : decode cX8_seenOf 43 = .ok (.goto (-39), 3) := by decide +kernel
theorem dX8_seenOf_46 : decode cX8_seenOf 46 = .ok (.iload_n 2, 1) := by decide +kernel
theorem dX8_seenOf_47 : decode cX8_seenOf 47 = .ok (.ireturn, 1) := by decide +kernel
theorem dX8_seen_0 : decode cX8_seen 0 = .ok (.aload_n 0, 1) := by decide +kernel
theorem dX8_seen_1 : decode cX8_seen 1 = .ok (.iload_n 1, 1) := by decide +kernel
theorem dX8_seen_2 : decode cX8_seen 2 = .ok (.invokevirtual 94, 3) := by decide +kernel
theorem dX8_seen_5 : decode cX8_seen 5 = .ok (.ifCond .eq 11, 3) := by decide +kernel
theorem dX8_seen_8 : decode cX8_seen 8 = .ok (.aload_n 0, 1) := by decide +kernel
theorem dX8_seen_9 : decode cX8_seen 9 = .ok (.iload_n 1, 1) := by decide +kernel
theorem dX8_seen_10 : decode cX8_seen 10 = .ok (.invokevirtual 104, 3) := by decide +kernel
theorem dX8_seen_13 : decode cX8_seen 13 = .ok (.goto 4, 3) := by decide +kernel
theorem dX8_seen_16 : decode cX8_seen 16 = .ok (.iconst (-1), 1) := by decide +kernel
theorem dX8_seen_17 : decode cX8_seen 17 = .ok (.ireturn, 1) := by decide +kernel
theorem dX8_nearestForm_0 : decode cX8_nearestForm 0 = .ok (.iconst 0, 1) := by decide +kernel
theorem dX8_nearestForm_1 : decode cX8_nearestForm 1 = .ok (.istore_n 2, 1) := by decide +kernel
theorem dX8_nearestForm_2 : decode cX8_nearestForm 2 = .ok (.iconst 1, 1) := by decide +kernel
theorem dX8_nearestForm_3 : decode cX8_nearestForm 3 = .ok (.istore_n 3, 1) := by decide +kernel
theorem dX8_nearestForm_4 : decode cX8_nearestForm 4 = .ok (.iload_n 3, 1) := by decide +kernel
theorem dX8_nearestForm_5 : decode cX8_nearestForm 5 = .ok (.bipush 26, 2) := by decide +kernel
theorem dX8_nearestForm_7 : decode cX8_nearestForm 7 = .ok (.if_icmp .ge 40, 3) := by decide +kernel
theorem dX8_nearestForm_10 : decode cX8_nearestForm 10 = .ok (.iload_n 1, 1) := by decide +kernel
theorem dX8_nearestForm_11 : decode cX8_nearestForm 11 = .ok (.aload_n 0, 1) := by decide +kernel
theorem dX8_nearestForm_12 : decode cX8_nearestForm 12 = .ok (.getfield 7, 3) := by decide +kernel
theorem dX8_nearestForm_15 : decode cX8_nearestForm 15 = .ok (.iload_n 3, 1) := by decide +kernel
theorem dX8_nearestForm_16 : decode cX8_nearestForm 16 = .ok (.iaload, 1) := by decide +kernel
theorem dX8_nearestForm_17 : decode cX8_nearestForm 17 = .ok (.ixor, 1) := by decide +kernel
theorem dX8_nearestForm_18 : decode cX8_nearestForm 18 = .ok (.invokestatic 108, 3) := by decide +kernel
theorem dX8_nearestForm_21 : decode cX8_nearestForm 21 = .ok (.iload_n 1, 1) := by decide +kernel
theorem dX8_nearestForm_22 : decode cX8_nearestForm 22 = .ok (.aload_n 0, 1) := by decide +kernel
theorem dX8_nearestForm_23 : decode cX8_nearestForm 23 = .ok (.getfield 7, 3) := by decide +kernel
theorem dX8_nearestForm_26 : decode cX8_nearestForm 26 = .ok (.iload_n 2, 1) := by decide +kernel
theorem dX8_nearestForm_27 : decode cX8_nearestForm 27 = .ok (.iaload, 1) := by decide +kernel
theorem dX8_nearestForm_28 : decode cX8_nearestForm 28 = .ok (.ixor, 1) := by decide +kernel
theorem dX8_nearestForm_29 : decode cX8_nearestForm 29 = .ok (.invokestatic 108, 3) := by decide +kernel
theorem dX8_nearestForm_32 : decode cX8_nearestForm 32 = .ok (.if_icmp .ge 7, 3) := by decide +kernel
theorem dX8_nearestForm_35 : decode cX8_nearestForm 35 = .ok (.iload_n 3, 1) := by decide +kernel
theorem dX8_nearestForm_36 : decode cX8_nearestForm 36 = .ok (.goto 4, 3) := by decide +kernel
theorem dX8_nearestForm_39 : decode cX8_nearestForm 39 = .ok (.iload_n 2, 1) := by decide +kernel
theorem dX8_nearestForm_40 : decode cX8_nearestForm 40 = .ok (.istore_n 2, 1) := by decide +kernel
theorem dX8_nearestForm_41 : decode cX8_nearestForm 41 = .ok (.iinc 3 1, 3) := by decide +kernel
theorem dX8_nearestForm_44 : decode cX8_nearestForm 44 = .ok (.goto (-40), 3) := by decide +kernel
theorem dX8_nearestForm_47 : decode cX8_nearestForm 47 = .ok (.iload_n 2, 1) := by decide +kernel
theorem dX8_nearestForm_48 : decode cX8_nearestForm 48 = .ok (.ireturn, 1) := by decide +kernel
theorem dX8_readsAs_0 : decode cX8_readsAs 0 = .ok (.aload_n 0, 1) := by decide +kernel
theorem dX8_readsAs_1 : decode cX8_readsAs 1 = .ok (.iload_n 1, 1) := by decide +kernel
theorem dX8_readsAs_2 : decode cX8_readsAs 2 = .ok (.invokevirtual 111, 3) := by decide +kernel
theorem dX8_readsAs_5 : decode cX8_readsAs 5 = .ok (.istore_n 2, 1) := by decide +kernel
theorem dX8_readsAs_6 : decode cX8_readsAs 6 = .ok (.iload_n 1, 1) := by decide +kernel
theorem dX8_readsAs_7 : decode cX8_readsAs 7 = .ok (.aload_n 0, 1) := by decide +kernel
theorem dX8_readsAs_8 : decode cX8_readsAs 8 = .ok (.getfield 7, 3) := by decide +kernel
theorem dX8_readsAs_11 : decode cX8_readsAs 11 = .ok (.iload_n 2, 1) := by decide +kernel
theorem dX8_readsAs_12 : decode cX8_readsAs 12 = .ok (.iaload, 1) := by decide +kernel
theorem dX8_readsAs_13 : decode cX8_readsAs 13 = .ok (.ixor, 1) := by decide +kernel
theorem dX8_readsAs_14 : decode cX8_readsAs 14 = .ok (.invokestatic 108, 3) := by decide +kernel
theorem dX8_readsAs_17 : decode cX8_readsAs 17 = .ok (.aload_n 0, 1) := by decide +kernel
theorem dX8_readsAs_18 : decode cX8_readsAs 18 = .ok (.getfield 22, 3) := by decide +kernel
theorem dX8_readsAs_21 : decode cX8_readsAs 21 = .ok (.iconst 2, 1) := by decide +kernel
theorem dX8_readsAs_22 : decode cX8_readsAs 22 = .ok (.iaload, 1) := by decide +kernel
theorem dX8_readsAs_23 : decode cX8_readsAs 23 = .ok (.if_icmp .le 8, 3) := by decide +kernel
theorem dX8_readsAs_26 : decode cX8_readsAs 26 = .ok (.bipush (-4), 2) := by decide +kernel
theorem dX8_readsAs_28 : decode cX8_readsAs 28 = .ok (.goto 4, 3) := by decide +kernel
theorem dX8_readsAs_31 : decode cX8_readsAs 31 = .ok (.iload_n 2, 1) := by decide +kernel
theorem dX8_readsAs_32 : decode cX8_readsAs 32 = .ok (.ireturn, 1) := by decide +kernel
theorem dX8_reads_0 : decode cX8_reads 0 = .ok (.aload_n 0, 1) := by decide +kernel
theorem dX8_reads_1 : decode cX8_reads 1 = .ok (.iload_n 1, 1) := by decide +kernel
theorem dX8_reads_2 : decode cX8_reads 2 = .ok (.invokevirtual 94, 3) := by decide +kernel
theorem dX8_reads_5 : decode cX8_reads 5 = .ok (.ifCond .eq 15, 3) := by decide +kernel
theorem dX8_reads_8 : decode cX8_reads 8 = .ok (.aload_n 0, 1) := by decide +kernel
theorem dX8_reads_9 : decode cX8_reads 9 = .ok (.aload_n 0, 1) := by decide +kernel
theorem dX8_reads_10 : decode cX8_reads 10 = .ok (.iload_n 1, 1) := by decide +kernel
theorem dX8_reads_11 : decode cX8_reads 11 = .ok (.invokevirtual 104, 3) := by decide +kernel
theorem dX8_reads_14 : decode cX8_reads 14 = .ok (.invokevirtual 114, 3) := by decide +kernel
theorem dX8_reads_17 : decode cX8_reads 17 = .ok (.goto 4, 3) := by decide +kernel
theorem dX8_reads_20 : decode cX8_reads 20 = .ok (.iconst (-1), 1) := by decide +kernel
theorem dX8_reads_21 : decode cX8_reads 21 = .ok (.ireturn, 1) := by decide +kernel
theorem dX8_off_0 : decode cX8_off 0 = .ok (.aload_n 0, 1) := by decide +kernel
theorem dX8_off_1 : decode cX8_off 1 = .ok (.iload_n 1, 1) := by decide +kernel
theorem dX8_off_2 : decode cX8_off 2 = .ok (.invokevirtual 94, 3) := by decide +kernel
theorem dX8_off_5 : decode cX8_off 5 = .ok (.ifCond .ne 5, 3) := by decide +kernel
theorem dX8_off_8 : decode cX8_off 8 = .ok (.iconst (-1), 1) := by decide +kernel
theorem dX8_off_9 : decode cX8_off 9 = .ok (.ireturn, 1) := by decide +kernel
theorem dX8_off_10 : decode cX8_off 10 = .ok (.aload_n 0, 1) := by decide +kernel
theorem dX8_off_11 : decode cX8_off 11 = .ok (.iload_n 1, 1) := by decide +kernel
theorem dX8_off_12 : decode cX8_off 12 = .ok (.invokevirtual 104, 3) := by decide +kernel
theorem dX8_off_15 : decode cX8_off 15 = .ok (.istore_n 2, 1) := by decide +kernel
theorem dX8_off_16 : decode cX8_off 16 = .ok (.iload_n 2, 1) := by decide +kernel
theorem dX8_off_17 : decode cX8_off 17 = .ok (.aload_n 0, 1) := by decide +kernel
theorem dX8_off_18 : decode cX8_off 18 = .ok (.getfield 7, 3) := by decide +kernel
theorem dX8_off_21 : decode cX8_off 21 = .ok (.aload_n 0, 1) := by decide +kernel
theorem dX8_off_22 : decode cX8_off 22 = .ok (.iload_n 2, 1) := by decide +kernel
theorem dX8_off_23 : decode cX8_off 23 = .ok (.invokevirtual 111, 3) := by decide +kernel
theorem dX8_off_26 : decode cX8_off 26 = .ok (.iaload, 1) := by decide +kernel
theorem dX8_off_27 : decode cX8_off 27 = .ok (.ixor, 1) := by decide +kernel
theorem dX8_off_28 : decode cX8_off 28 = .ok (.invokestatic 108, 3) := by decide +kernel
theorem dX8_off_31 : decode cX8_off 31 = .ok (.ireturn, 1) := by decide +kernel
theorem dX8_hasGrown_0 : decode cX8_hasGrown 0 = .ok (.iconst 1, 1) := by decide +kernel
theorem dX8_hasGrown_1 : decode cX8_hasGrown 1 = .ok (.istore_n 3, 1) := by decide +kernel
theorem dX8_hasGrown_2 : decode cX8_hasGrown 2 = .ok (.iconst 0, 1) := by decide +kernel
theorem dX8_hasGrown_3 : decode cX8_hasGrown 3 = .ok (.istore 4, 2) := by decide +kernel
theorem dX8_hasGrown_5 : decode cX8_hasGrown 5 = .ok (.iload 4, 2) := by decide +kernel
theorem dX8_hasGrown_7 : decode cX8_hasGrown 7 = .ok (.bipush 15, 2) := by decide +kernel
theorem dX8_hasGrown_9 : decode cX8_hasGrown 9 = .ok (.if_icmp .ge 44, 3) := by decide +kernel
theorem dX8_hasGrown_12 : decode cX8_hasGrown 12 = .ok (.iload_n 3, 1) := by decide +kernel
theorem dX8_hasGrown_13 : decode cX8_hasGrown 13 = .ok (.ifCond .eq 32, 3) := by decide +kernel
theorem dX8_hasGrown_16 : decode cX8_hasGrown 16 = .ok (.iload_n 2, 1) := by decide +kernel
theorem dX8_hasGrown_17 : decode cX8_hasGrown 17 = .ok (.iload 4, 2) := by decide +kernel
theorem dX8_hasGrown_19 : decode cX8_hasGrown 19 = .ok (.invokestatic 117, 3) := by decide +kernel
theorem dX8_hasGrown_22 : decode cX8_hasGrown 22 = .ok (.ifCond .eq 19, 3) := by decide +kernel
theorem dX8_hasGrown_25 : decode cX8_hasGrown 25 = .ok (.aload_n 0, 1) := by decide +kernel
theorem dX8_hasGrown_26 : decode cX8_hasGrown 26 = .ok (.getfield 16, 3) := by decide +kernel
theorem dX8_hasGrown_29 : decode cX8_hasGrown 29 = .ok (.bipush 15, 2) := by decide +kernel
theorem dX8_hasGrown_31 : decode cX8_hasGrown 31 = .ok (.iload_n 1, 1) := by decide +kernel
theorem dX8_hasGrown_32 : decode cX8_hasGrown 32 = .ok (.imul, 1) := by decide +kernel
theorem dX8_hasGrown_33 : decode cX8_hasGrown 33 = .ok (.iload 4, 2) := by decide +kernel
theorem dX8_hasGrown_35 : decode cX8_hasGrown 35 = .ok (.iadd, 1) := by decide +kernel
theorem dX8_hasGrown_36 : decode cX8_hasGrown 36 = .ok (.iaload, 1) := by decide +kernel
theorem dX8_hasGrown_37 : decode cX8_hasGrown 37 = .ok (.iconst 2, 1) := by decide +kernel
theorem dX8_hasGrown_38 : decode cX8_hasGrown 38 = .ok (.if_icmp .le 7, 3) := by decide +kernel
theorem dX8_hasGrown_41 : decode cX8_hasGrown 41 = .ok (.iconst 1, 1) := by decide +kernel
theorem dX8_hasGrown_42 : decode cX8_hasGrown 42 = .ok (.goto 4, 3) := by decide +kernel
theorem dX8_hasGrown_45 : decode cX8_hasGrown 45 = .ok (.iconst 0, 1) := by decide +kernel
theorem dX8_hasGrown_46 : decode cX8_hasGrown 46 = .ok (.istore_n 3, 1) := by decide +kernel
theorem dX8_hasGrown_47 : decode cX8_hasGrown 47 = .ok (.iinc 4 1, 3) := by decide +kernel
theorem dX8_hasGrown_50 : decode cX8_hasGrown 50 = .ok (.goto (-45), 3) := by decide +kernel
theorem dX8_hasGrown_53 : decode cX8_hasGrown 53 = .ok (.iload_n 3, 1) := by decide +kernel
theorem dX8_hasGrown_54 : decode cX8_hasGrown 54 = .ok (.ireturn, 1) := by decide +kernel
theorem dX8_mowSet_0 : decode cX8_mowSet 0 = .ok (.iconst 0, 1) := by decide +kernel
theorem dX8_mowSet_1 : decode cX8_mowSet 1 = .ok (.istore_n 3, 1) := by decide +kernel
theorem dX8_mowSet_2 : decode cX8_mowSet 2 = .ok (.iconst 0, 1) := by decide +kernel
theorem dX8_mowSet_3 : decode cX8_mowSet 3 = .ok (.istore 4, 2) := by decide +kernel
theorem dX8_mowSet_5 : decode cX8_mowSet 5 = .ok (.iload 4, 2) := by decide +kernel
theorem dX8_mowSet_7 : decode cX8_mowSet 7 = .ok (.bipush 15, 2) := by decide +kernel
theorem dX8_mowSet_9 : decode cX8_mowSet 9 = .ok (.if_icmp .ge 56, 3) := by decide +kernel
theorem dX8_mowSet_12 : decode cX8_mowSet 12 = .ok (.bipush 15, 2) := by decide +kernel
theorem dX8_mowSet_14 : decode cX8_mowSet 14 = .ok (.iload_n 1, 1) := by decide +kernel
theorem dX8_mowSet_15 : decode cX8_mowSet 15 = .ok (.imul, 1) := by decide +kernel
theorem dX8_mowSet_16 : decode cX8_mowSet 16 = .ok (.iload 4, 2) := by decide +kernel
theorem dX8_mowSet_18 : decode cX8_mowSet 18 = .ok (.iadd, 1) := by decide +kernel
theorem dX8_mowSet_19 : decode cX8_mowSet 19 = .ok (.istore 5, 2) := by decide +kernel
theorem dX8_mowSet_21 : decode cX8_mowSet 21 = .ok (.iload_n 2, 1) := by decide +kernel
theorem dX8_mowSet_22 : decode cX8_mowSet 22 = .ok (.iload 4, 2) := by decide +kernel
theorem dX8_mowSet_24 : decode cX8_mowSet 24 = .ok (.invokestatic 117, 3) := by decide +kernel
theorem dX8_mowSet_27 : decode cX8_mowSet 27 = .ok (.ifCond .eq 32, 3) := by decide +kernel
theorem dX8_mowSet_30 : decode cX8_mowSet 30 = .ok (.aload_n 0, 1) := by decide +kernel
theorem dX8_mowSet_31 : decode cX8_mowSet 31 = .ok (.getfield 16, 3) := by decide +kernel
theorem dX8_mowSet_34 : decode cX8_mowSet 34 = .ok (.iload 5, 2) := by decide +kernel
theorem dX8_mowSet_36 : decode cX8_mowSet 36 = .ok (.iaload, 1) := by decide +kernel
theorem dX8_mowSet_37 : decode cX8_mowSet 37 = .ok (.iconst 2, 1) := by decide +kernel
theorem dX8_mowSet_38 : decode cX8_mowSet 38 = .ok (.if_icmp .le 21, 3) := by decide +kernel
theorem dX8_mowSet_41 : decode cX8_mowSet 41 = .ok (.iload_n 3, 1) := by decide +kernel
theorem dX8_mowSet_42 : decode cX8_mowSet 42 = .ok (.aload_n 0, 1) := by decide +kernel
theorem dX8_mowSet_43 : decode cX8_mowSet 43 = .ok (.getfield 16, 3) := by decide +kernel
theorem dX8_mowSet_46 : decode cX8_mowSet 46 = .ok (.iload 5, 2) := by decide +kernel
theorem dX8_mowSet_48 : decode cX8_mowSet 48 = .ok (.iaload, 1) := by decide +kernel
theorem dX8_mowSet_49 : decode cX8_mowSet 49 = .ok (.iadd, 1) := by decide +kernel
theorem dX8_mowSet_50 : decode cX8_mowSet 50 = .ok (.istore_n 3, 1) := by decide +kernel
theorem dX8_mowSet_51 : decode cX8_mowSet 51 = .ok (.aload_n 0, 1) := by decide +kernel
theorem dX8_mowSet_52 : decode cX8_mowSet 52 = .ok (.getfield 16, 3) := by decide +kernel
theorem dX8_mowSet_55 : decode cX8_mowSet 55 = .ok (.iload 5, 2) := by decide +kernel
theorem dX8_mowSet_57 : decode cX8_mowSet 57 = .ok (.iconst 0, 1) := by decide +kernel
theorem dX8_mowSet_58 : decode cX8_mowSet 58 = .ok (.iastore, 1) := by decide +kernel
theorem dX8_mowSet_59 : decode cX8_mowSet 59 = .ok (.iinc 4 1, 3) := by decide +kernel
theorem dX8_mowSet_62 : decode cX8_mowSet 62 = .ok (.goto (-57), 3) := by decide +kernel
theorem dX8_mowSet_65 : decode cX8_mowSet 65 = .ok (.aload_n 0, 1) := by decide +kernel
theorem dX8_mowSet_66 : decode cX8_mowSet 66 = .ok (.getfield 19, 3) := by decide +kernel
theorem dX8_mowSet_69 : decode cX8_mowSet 69 = .ok (.aload_n 0, 1) := by decide +kernel
theorem dX8_mowSet_70 : decode cX8_mowSet 70 = .ok (.getfield 13, 3) := by decide +kernel
theorem dX8_mowSet_73 : decode cX8_mowSet 73 = .ok (.iload_n 1, 1) := by decide +kernel
theorem dX8_mowSet_74 : decode cX8_mowSet 74 = .ok (.iaload, 1) := by decide +kernel
theorem dX8_mowSet_75 : decode cX8_mowSet 75 = .ok (.dup2, 1) := by decide +kernel
theorem dX8_mowSet_76 : decode cX8_mowSet 76 = .ok (.iaload, 1) := by decide +kernel
theorem dX8_mowSet_77 : decode cX8_mowSet 77 = .ok (.iload_n 3, 1) := by decide +kernel
theorem dX8_mowSet_78 : decode cX8_mowSet 78 = .ok (.iadd, 1) := by decide +kernel
theorem dX8_mowSet_79 : decode cX8_mowSet 79 = .ok (.iastore, 1) := by decide +kernel
theorem dX8_mowSet_80 : decode cX8_mowSet 80 = .ok (.iload_n 3, 1) := by decide +kernel
theorem dX8_mowSet_81 : decode cX8_mowSet 81 = .ok (.ireturn, 1) := by decide +kernel
theorem dX8_mow_0 : decode cX8_mow 0 = .ok (.aload_n 0, 1) := by decide +kernel
theorem dX8_mow_1 : decode cX8_mow 1 = .ok (.iload_n 1, 1) := by decide +kernel
theorem dX8_mow_2 : decode cX8_mow 2 = .ok (.invokevirtual 94, 3) := by decide +kernel
theorem dX8_mow_5 : decode cX8_mow 5 = .ok (.ifCond .eq 10, 3) := by decide +kernel
theorem dX8_mow_8 : decode cX8_mow 8 = .ok (.iload_n 2, 1) := by decide +kernel
theorem dX8_mow_9 : decode cX8_mow 9 = .ok (.invokestatic 101, 3) := by decide +kernel
theorem dX8_mow_12 : decode cX8_mow 12 = .ok (.ifCond .ne 5, 3) := by decide +kernel
theorem dX8_mow_15 : decode cX8_mow 15 = .ok (.iconst (-1), 1) := by decide +kernel
theorem dX8_mow_16 : decode cX8_mow 16 = .ok (.ireturn, 1) := by decide +kernel
theorem dX8_mow_17 : decode cX8_mow 17 = .ok (.aload_n 0, 1) := by decide +kernel
theorem dX8_mow_18 : decode cX8_mow 18 = .ok (.iload_n 1, 1) := by decide +kernel
theorem dX8_mow_19 : decode cX8_mow 19 = .ok (.aload_n 0, 1) := by decide +kernel
theorem dX8_mow_20 : decode cX8_mow 20 = .ok (.getfield 7, 3) := by decide +kernel
theorem dX8_mow_23 : decode cX8_mow 23 = .ok (.iload_n 2, 1) := by decide +kernel
theorem dX8_mow_24 : decode cX8_mow 24 = .ok (.iaload, 1) := by decide +kernel
theorem dX8_mow_25 : decode cX8_mow 25 = .ok (.invokevirtual 121, 3) := by decide +kernel
theorem dX8_mow_28 : decode cX8_mow 28 = .ok (.ifCond .eq 17, 3) := by decide +kernel
theorem dX8_mow_31 : decode cX8_mow 31 = .ok (.aload_n 0, 1) := by decide +kernel
theorem dX8_mow_32 : decode cX8_mow 32 = .ok (.iload_n 1, 1) := by decide +kernel
theorem dX8_mow_33 : decode cX8_mow 33 = .ok (.aload_n 0, 1) := by decide +kernel
theorem dX8_mow_34 : decode cX8_mow 34 = .ok (.getfield 7, 3) := by decide +kernel
theorem dX8_mow_37 : decode cX8_mow 37 = .ok (.iload_n 2, 1) := by decide +kernel
theorem dX8_mow_38 : decode cX8_mow 38 = .ok (.iaload, 1) := by decide +kernel
theorem dX8_mow_39 : decode cX8_mow 39 = .ok (.invokevirtual 124, 3) := by decide +kernel
theorem dX8_mow_42 : decode cX8_mow 42 = .ok (.goto 5, 3) := by decide +kernel
theorem dX8_mow_45 : decode cX8_mow 45 = .ok (.bipush (-2), 2) := by decide +kernel
theorem dX8_mow_47 : decode cX8_mow 47 = .ok (.ireturn, 1) := by decide +kernel
theorem dX8_cut_0 : decode cX8_cut 0 = .ok (.aload_n 0, 1) := by decide +kernel
theorem dX8_cut_1 : decode cX8_cut 1 = .ok (.iload_n 1, 1) := by decide +kernel
theorem dX8_cut_2 : decode cX8_cut 2 = .ok (.invokevirtual 94, 3) := by decide +kernel
theorem dX8_cut_5 : decode cX8_cut 5 = .ok (.ifCond .eq 14, 3) := by decide +kernel
theorem dX8_cut_8 : decode cX8_cut 8 = .ok (.aload_n 0, 1) := by decide +kernel
theorem dX8_cut_9 : decode cX8_cut 9 = .ok (.iload_n 1, 1) := by decide +kernel
theorem dX8_cut_10 : decode cX8_cut 10 = .ok (.sipush 32767, 3) := by decide +kernel
theorem dX8_cut_13 : decode cX8_cut 13 = .ok (.invokevirtual 124, 3) := by decide +kernel
theorem dX8_cut_16 : decode cX8_cut 16 = .ok (.goto 4, 3) := by decide +kernel
theorem dX8_cut_19 : decode cX8_cut 19 = .ok (.iconst (-1), 1) := by decide +kernel
theorem dX8_cut_20 : decode cX8_cut 20 = .ok (.ireturn, 1) := by decide +kernel
theorem dX8_fault_0 : decode cX8_fault 0 = .ok (.aload_n 0, 1) := by decide +kernel
theorem dX8_fault_1 : decode cX8_fault 1 = .ok (.iload_n 1, 1) := by decide +kernel
theorem dX8_fault_2 : decode cX8_fault 2 = .ok (.invokevirtual 94, 3) := by decide +kernel
theorem dX8_fault_5 : decode cX8_fault 5 = .ok (.ifCond .eq 20, 3) := by decide +kernel
theorem dX8_fault_8 : decode cX8_fault 8 = .ok (.iload_n 2, 1) := by decide +kernel
theorem dX8_fault_9 : decode cX8_fault 9 = .ok (.invokestatic 98, 3) := by decide +kernel
theorem dX8_fault_12 : decode cX8_fault 12 = .ok (.ifCond .eq 13, 3) := by decide +kernel
theorem dX8_fault_15 : decode cX8_fault 15 = .ok (.iload_n 3, 1) := by decide +kernel
theorem dX8_fault_16 : decode cX8_fault 16 = .ok (.i2l, 1) := by decide +kernel
theorem dX8_fault_17 : decode cX8_fault 17 = .ok (.lconst 0, 1) := by decide +kernel
theorem dX8_fault_18 : decode cX8_fault 18 = .ok (.lconst 1, 1) := by decide +kernel
theorem dX8_fault_19 : decode cX8_fault 19 = .ok (.invokestatic 75, 3) := by decide +kernel
theorem dX8_fault_22 : decode cX8_fault 22 = .ok (.ifCond .ne 5, 3) := by decide +kernel
theorem dX8_fault_25 : decode cX8_fault 25 = .ok (.iconst (-1), 1) := by decide +kernel
theorem dX8_fault_26 : decode cX8_fault 26 = .ok (.ireturn, 1) := by decide +kernel
theorem dX8_fault_27 : decode cX8_fault 27 = .ok (.aload_n 0, 1) := by decide +kernel
theorem dX8_fault_28 : decode cX8_fault 28 = .ok (.getfield 16, 3) := by decide +kernel
theorem dX8_fault_31 : decode cX8_fault 31 = .ok (.bipush 15, 2) := by decide +kernel
theorem dX8_fault_33 : decode cX8_fault 33 = .ok (.iload_n 1, 1) := by decide +kernel
theorem dX8_fault_34 : decode cX8_fault 34 = .ok (.imul, 1) := by decide +kernel
theorem dX8_fault_35 : decode cX8_fault 35 = .ok (.iload_n 2, 1) := by decide +kernel
theorem dX8_fault_36 : decode cX8_fault 36 = .ok (.iadd, 1) := by decide +kernel
theorem dX8_fault_37 : decode cX8_fault 37 = .ok (.iaload, 1) := by decide +kernel
theorem dX8_fault_38 : decode cX8_fault 38 = .ok (.istore 4, 2) := by decide +kernel
theorem dX8_fault_40 : decode cX8_fault 40 = .ok (.aload_n 0, 1) := by decide +kernel
theorem dX8_fault_41 : decode cX8_fault 41 = .ok (.getfield 16, 3) := by decide +kernel
theorem dX8_fault_44 : decode cX8_fault 44 = .ok (.bipush 15, 2) := by decide +kernel
theorem dX8_fault_46 : decode cX8_fault 46 = .ok (.iload_n 1, 1) := by decide +kernel
theorem dX8_fault_47 : decode cX8_fault 47 = .ok (.imul, 1) := by decide +kernel
theorem dX8_fault_48 : decode cX8_fault 48 = .ok (.iload_n 2, 1) := by decide +kernel
theorem dX8_fault_49 : decode cX8_fault 49 = .ok (.iadd, 1) := by decide +kernel
theorem dX8_fault_50 : decode cX8_fault 50 = .ok (.iload_n 3, 1) := by decide +kernel
theorem dX8_fault_51 : decode cX8_fault 51 = .ok (.ifCond .ne 7, 3) := by decide +kernel
theorem dX8_fault_54 : decode cX8_fault 54 = .ok (.iconst 0, 1) := by decide +kernel
theorem dX8_fault_55 : decode cX8_fault 55 = .ok (.goto 5, 3) := by decide +kernel
theorem dX8_fault_58 : decode cX8_fault 58 = .ok (.bipush 9, 2) := by decide +kernel
theorem dX8_fault_60 : decode cX8_fault 60 = .ok (.iastore, 1) := by decide +kernel
theorem dX8_fault_61 : decode cX8_fault 61 = .ok (.iload 4, 2) := by decide +kernel
theorem dX8_fault_63 : decode cX8_fault 63 = .ok (.ireturn, 1) := by decide +kernel
theorem dX8_goWeek_0 : decode cX8_goWeek 0 = .ok (.iconst 0, 1) := by decide +kernel
theorem dX8_goWeek_1 : decode cX8_goWeek 1 = .ok (.istore_n 1, 1) := by decide +kernel
theorem dX8_goWeek_2 : decode cX8_goWeek 2 = .ok (.iload_n 1, 1) := by decide +kernel
theorem dX8_goWeek_3 : decode cX8_goWeek 3 = .ok (.bipush 15, 2) := by decide +kernel
theorem dX8_goWeek_5 : decode cX8_goWeek 5 = .ok (.aload_n 0, 1) := by decide +kernel
theorem dX8_goWeek_6 : decode cX8_goWeek 6 = .ok (.getfield 71, 3) := by decide +kernel
theorem dX8_goWeek_9 : decode cX8_goWeek 9 = .ok (.imul, 1) := by decide +kernel
theorem dX8_goWeek_10 : decode cX8_goWeek 10 = .ok (.if_icmp .ge 41, 3) := by decide +kernel
theorem dX8_goWeek_13 : decode cX8_goWeek 13 = .ok (.aload_n 0, 1) := by decide +kernel
theorem dX8_goWeek_14 : decode cX8_goWeek 14 = .ok (.getfield 16, 3) := by decide +kernel
theorem dX8_goWeek_17 : decode cX8_goWeek 17 = .ok (.iload_n 1, 1) := by decide +kernel
theorem dX8_goWeek_18 : decode cX8_goWeek 18 = .ok (.iaload, 1) := by decide +kernel
theorem dX8_goWeek_19 : decode cX8_goWeek 19 = .ok (.aload_n 0, 1) := by decide +kernel
theorem dX8_goWeek_20 : decode cX8_goWeek 20 = .ok (.getfield 22, 3) := by decide +kernel
theorem dX8_goWeek_23 : decode cX8_goWeek 23 = .ok (.iconst 0, 1) := by decide +kernel
theorem dX8_goWeek_24 : decode cX8_goWeek 24 = .ok (.iaload, 1) := by decide +kernel
theorem dX8_goWeek_25 : decode cX8_goWeek 25 = .ok (.iadd, 1) := by decide +kernel
theorem dX8_goWeek_26 : decode cX8_goWeek 26 = .ok (.istore_n 2, 1) := by decide +kernel
theorem dX8_goWeek_27 : decode cX8_goWeek 27 = .ok (.aload_n 0, 1) := by decide +kernel
theorem dX8_goWeek_28 : decode cX8_goWeek 28 = .ok (.getfield 16, 3) := by decide +kernel
theorem dX8_goWeek_31 : decode cX8_goWeek 31 = .ok (.iload_n 1, 1) := by decide +kernel
theorem dX8_goWeek_32 : decode cX8_goWeek 32 = .ok (.iload_n 2, 1) := by decide +kernel
theorem dX8_goWeek_33 : decode cX8_goWeek 33 = .ok (.bipush 9, 2) := by decide +kernel
theorem dX8_goWeek_35 : decode cX8_goWeek 35 = .ok (.if_icmp .le 8, 3) := by decide +kernel
theorem dX8_goWeek_38 : decode cX8_goWeek 38 = .ok (.bipush 9, 2) := by decide +kernel
theorem dX8_goWeek_40 : decode cX8_goWeek 40 = .ok (.goto 4, 3) := by decide +kernel
theorem dX8_goWeek_43 : decode cX8_goWeek 43 = .ok (.iload_n 2, 1) := by decide +kernel
theorem dX8_goWeek_44 : decode cX8_goWeek 44 = .ok (.iastore, 1) := by decide +kernel
theorem dX8_goWeek_45 : decode cX8_goWeek 45 = .ok (.iinc 1 1, 3) := by decide +kernel
theorem dX8_goWeek_48 : decode cX8_goWeek 48 = .ok (.goto (-46), 3) := by decide +kernel
theorem dX8_goWeek_51 : decode cX8_goWeek 51 = .ok (.return_, 1) := by decide +kernel
theorem dX8_weeks_0 : decode cX8_weeks 0 = .ok (.iload_n 1, 1) := by decide +kernel
theorem dX8_weeks_1 : decode cX8_weeks 1 = .ok (.i2l, 1) := by decide +kernel
theorem dX8_weeks_2 : decode cX8_weeks 2 = .ok (.lconst 1, 1) := by decide +kernel
theorem dX8_weeks_3 : decode cX8_weeks 3 = .ok (.ldc2_w 128, 3) := by decide +kernel
theorem dX8_weeks_6 : decode cX8_weeks 6 = .ok (.invokestatic 75, 3) := by decide +kernel
theorem dX8_weeks_9 : decode cX8_weeks 9 = .ok (.ifCond .ne 5, 3) := by decide +kernel
theorem dX8_weeks_12 : decode cX8_weeks 12 = .ok (.iconst (-1), 1) := by decide +kernel
theorem dX8_weeks_13 : decode cX8_weeks 13 = .ok (.ireturn, 1) := by decide +kernel
theorem dX8_weeks_14 : decode cX8_weeks 14 = .ok (.iconst 0, 1) := by decide +kernel
theorem dX8_weeks_15 : decode cX8_weeks 15 = .ok (.istore_n 2, 1) := by decide +kernel
theorem dX8_weeks_16 : decode cX8_weeks 16 = .ok (.iload_n 2, 1) := by decide +kernel
theorem dX8_weeks_17 : decode cX8_weeks 17 = .ok (.iload_n 1, 1) := by decide +kernel
theorem dX8_weeks_18 : decode cX8_weeks 18 = .ok (.if_icmp .ge 13, 3) := by decide +kernel
theorem dX8_weeks_21 : decode cX8_weeks 21 = .ok (.aload_n 0, 1) := by decide +kernel
theorem dX8_weeks_22 : decode cX8_weeks 22 = .ok (.invokevirtual 130, 3) := by decide +kernel
theorem dX8_weeks_25 : decode cX8_weeks 25 = .ok (.iinc 2 1, 3) := by decide +kernel
theorem dX8_weeks_28 : decode cX8_weeks 28 = .ok (.goto (-12), 3) := by decide +kernel
theorem dX8_weeks_31 : decode cX8_weeks 31 = .ok (.iconst 0, 1) := by decide +kernel
theorem dX8_weeks_32 : decode cX8_weeks 32 = .ok (.istore_n 2, 1) := by decide +kernel
theorem dX8_weeks_33 : decode cX8_weeks 33 = .ok (.iconst 0, 1) := by decide +kernel
theorem dX8_weeks_34 : decode cX8_weeks 34 = .ok (.istore_n 3, 1) := by decide +kernel
theorem dX8_weeks_35 : decode cX8_weeks 35 = .ok (.iload_n 3, 1) := by decide +kernel
theorem dX8_weeks_36 : decode cX8_weeks 36 = .ok (.bipush 15, 2) := by decide +kernel
theorem dX8_weeks_38 : decode cX8_weeks 38 = .ok (.aload_n 0, 1) := by decide +kernel
theorem dX8_weeks_39 : decode cX8_weeks 39 = .ok (.getfield 71, 3) := by decide +kernel
theorem dX8_weeks_42 : decode cX8_weeks 42 = .ok (.imul, 1) := by decide +kernel
theorem dX8_weeks_43 : decode cX8_weeks 43 = .ok (.if_icmp .ge 28, 3) := by decide +kernel
theorem dX8_weeks_46 : decode cX8_weeks 46 = .ok (.iload_n 2, 1) := by decide +kernel
theorem dX8_weeks_47 : decode cX8_weeks 47 = .ok (.aload_n 0, 1) := by decide +kernel
theorem dX8_weeks_48 : decode cX8_weeks 48 = .ok (.getfield 16, 3) := by decide +kernel
theorem dX8_weeks_51 : decode cX8_weeks 51 = .ok (.iload_n 3, 1) := by decide +kernel
theorem dX8_weeks_52 : decode cX8_weeks 52 = .ok (.iaload, 1) := by decide +kernel
theorem dX8_weeks_53 : decode cX8_weeks 53 = .ok (.bipush 9, 2) := by decide +kernel
theorem dX8_weeks_55 : decode cX8_weeks 55 = .ok (.if_icmp .ne 7, 3) := by decide +kernel
theorem dX8_weeks_58 : decode cX8_weeks 58 = .ok (.iconst 1, 1) := by decide +kernel
theorem dX8_weeks_59 : decode cX8_weeks 59 = .ok (.goto 4, 3) := by decide +kernel
theorem dX8_weeks_62 : decode cX8_weeks 62 = .ok (.iconst 0, 1) := by decide +kernel
theorem dX8_weeks_63 : decode cX8_weeks 63 = .ok (.iadd, 1) := by decide +kernel
theorem dX8_weeks_64 : decode cX8_weeks 64 = .ok (.istore_n 2, 1) := by decide +kernel
theorem dX8_weeks_65 : decode cX8_weeks 65 = .ok (.iinc 3 1, 3) := by decide +kernel
theorem dX8_weeks_68 : decode cX8_weeks 68 = .ok (.goto (-33), 3) := by decide +kernel
theorem dX8_weeks_71 : decode cX8_weeks 71 = .ok (.iload_n 2, 1) := by decide +kernel
theorem dX8_weeks_72 : decode cX8_weeks 72 = .ok (.ireturn, 1) := by decide +kernel
theorem dX8_hay_0 : decode cX8_hay 0 = .ok (.iload_n 1, 1) := by decide +kernel
theorem dX8_hay_1 : decode cX8_hay 1 = .ok (.i2l, 1) := by decide +kernel
theorem dX8_hay_2 : decode cX8_hay 2 = .ok (.lconst 0, 1) := by decide +kernel
theorem dX8_hay_3 : decode cX8_hay 3 = .ok (.ldc2_w 86, 3) := by decide +kernel
theorem dX8_hay_6 : decode cX8_hay 6 = .ok (.invokestatic 75, 3) := by decide +kernel
theorem dX8_hay_9 : decode cX8_hay 9 = .ok (.ifCond .eq 12, 3) := by decide +kernel
theorem dX8_hay_12 : decode cX8_hay 12 = .ok (.aload_n 0, 1) := by decide +kernel
theorem dX8_hay_13 : decode cX8_hay 13 = .ok (.getfield 19, 3) := by decide +kernel
theorem dX8_hay_16 : decode cX8_hay 16 = .ok (.iload_n 1, 1) := by decide +kernel
theorem dX8_hay_17 : decode cX8_hay 17 = .ok (.iaload, 1) := by decide +kernel
theorem dX8_hay_18 : decode cX8_hay 18 = .ok (.goto 4, 3) := by decide +kernel
theorem dX8_hay_21 : decode cX8_hay 21 = .ok (.iconst (-1), 1) := by decide +kernel
theorem dX8_hay_22 : decode cX8_hay 22 = .ok (.ireturn, 1) := by decide +kernel
theorem dX8_type_0 : decode cX8_type 0 = .ok (.iload_n 3, 1) := by decide +kernel
theorem dX8_type_1 : decode cX8_type 1 = .ok (.i2l, 1) := by decide +kernel
theorem dX8_type_2 : decode cX8_type 2 = .ok (.lconst 1, 1) := by decide +kernel
theorem dX8_type_3 : decode cX8_type 3 = .ok (.ldc2_w 133, 3) := by decide +kernel
theorem dX8_type_6 : decode cX8_type 6 = .ok (.invokestatic 75, 3) := by decide +kernel
theorem dX8_type_9 : decode cX8_type 9 = .ok (.ifCond .ne 5, 3) := by decide +kernel
theorem dX8_type_12 : decode cX8_type 12 = .ok (.iconst (-1), 1) := by decide +kernel
theorem dX8_type_13 : decode cX8_type 13 = .ok (.ireturn, 1) := by decide +kernel
theorem dX8_type_14 : decode cX8_type 14 = .ok (.iload_n 3, 1) := by decide +kernel
theorem dX8_type_15 : decode cX8_type 15 = .ok (.iconst 1, 1) := by decide +kernel
theorem dX8_type_16 : decode cX8_type 16 = .ok (.isub, 1) := by decide +kernel
theorem dX8_type_17 : decode cX8_type 17 = .ok (.istore 4, 2) := by decide +kernel
theorem dX8_type_19 : decode cX8_type 19 = .ok (.iload 4, 2) := by decide +kernel
theorem dX8_type_21 : decode cX8_type 21 = .ok (.ifCond .lt 34, 3) := by decide +kernel
theorem dX8_type_24 : decode cX8_type 24 = .ok (.lload_n 1, 1) := by decide +kernel
theorem dX8_type_25 : decode cX8_type 25 = .ok (.bipush 8, 2) := by decide +kernel
theorem dX8_type_27 : decode cX8_type 27 = .ok (.iload 4, 2) := by decide +kernel
theorem dX8_type_29 : decode cX8_type 29 = .ok (.imul, 1) := by decide +kernel
theorem dX8_type_30 : decode cX8_type 30 = .ok (.lshr, 1) := by decide +kernel
theorem dX8_type_31 : decode cX8_type 31 = .ok (.ldc2_w 135, 3) := by decide +kernel
theorem dX8_type_34 : decode cX8_type 34 = .ok (.land, 1) := by decide +kernel
theorem dX8_type_35 : decode cX8_type 35 = .ok (.ldc2_w 137, 3) := by decide +kernel
theorem dX8_type_38 : decode cX8_type 38 = .ok (.ldc2_w 139, 3) := by decide +kernel
theorem dX8_type_41 : decode cX8_type 41 = .ok (.invokestatic 75, 3) := by decide +kernel
theorem dX8_type_44 : decode cX8_type 44 = .ok (.ifCond .ne 5, 3) := by decide +kernel
theorem dX8_type_47 : decode cX8_type 47 = .ok (.iconst (-1), 1) := by decide +kernel
theorem dX8_type_48 : decode cX8_type 48 = .ok (.ireturn, 1) := by decide +kernel
theorem dX8_type_49 : decode cX8_type 49 = .ok (.iinc 4 (-1), 3) := by decide +kernel
theorem dX8_type_52 : decode cX8_type 52 = .ok (.goto (-33), 3) := by decide +kernel
theorem dX8_type_55 : decode cX8_type 55 = .ok (.aload_n 0, 1) := by decide +kernel
theorem dX8_type_56 : decode cX8_type 56 = .ok (.getfield 141, 3) := by decide +kernel
theorem dX8_type_59 : decode cX8_type 59 = .ok (.iload_n 3, 1) := by decide +kernel
theorem dX8_type_60 : decode cX8_type 60 = .ok (.iadd, 1) := by decide +kernel
theorem dX8_type_61 : decode cX8_type 61 = .ok (.bipush 80, 2) := by decide +kernel
theorem dX8_type_63 : decode cX8_type 63 = .ok (.if_icmp .le 6, 3) := by decide +kernel
theorem dX8_type_66 : decode cX8_type 66 = .ok (.bipush (-3), 2) := by decide +kernel
theorem dX8_type_68 : decode cX8_type 68 = .ok (.ireturn, 1) := by decide +kernel
theorem dX8_type_69 : decode cX8_type 69 = .ok (.iload_n 3, 1) := by decide +kernel
theorem dX8_type_70 : decode cX8_type 70 = .ok (.iconst 1, 1) := by decide +kernel
theorem dX8_type_71 : decode cX8_type 71 = .ok (.isub, 1) := by decide +kernel
theorem dX8_type_72 : decode cX8_type 72 = .ok (.istore 4, 2) := by decide +kernel
theorem dX8_type_74 : decode cX8_type 74 = .ok (.iload 4, 2) := by decide +kernel
theorem dX8_type_76 : decode cX8_type 76 = .ok (.ifCond .lt 40, 3) := by decide +kernel
theorem dX8_type_79 : decode cX8_type 79 = .ok (.aload_n 0, 1) := by decide +kernel
theorem dX8_type_80 : decode cX8_type 80 = .ok (.getfield 31, 3) := by decide +kernel
theorem dX8_type_83 : decode cX8_type 83 = .ok (.aload_n 0, 1) := by decide +kernel
theorem dX8_type_84 : decode cX8_type 84 = .ok (.getfield 141, 3) := by decide +kernel
theorem dX8_type_87 : decode cX8_type 87 = .ok (.lload_n 1, 1) := by decide +kernel
theorem dX8_type_88 : decode cX8_type 88 = .ok (.bipush 8, 2) := by decide +kernel
theorem dX8_type_90 : decode cX8_type 90 = .ok (.iload 4, 2) := by decide +kernel
theorem dX8_type_92 : decode cX8_type 92 = .ok (.imul, 1) := by decide +kernel
theorem dX8_type_93 : decode cX8_type 93 = .ok (.lshr, 1) := by decide +kernel
theorem dX8_type_94 : decode cX8_type 94 = .ok (.ldc2_w 135, 3) := by decide +kernel
theorem dX8_type_97 : decode cX8_type 97 = .ok (.land, 1) := by decide +kernel
theorem dX8_type_98 : decode cX8_type 98 = .ok (.l2i, 1) := by decide +kernel
theorem dX8_type_99 : decode cX8_type 99 = .ok (.iastore, 1) := by decide +kernel
theorem dX8_type_100 : decode cX8_type 100 = .ok (.aload_n 0, 1) := by decide +kernel
theorem dX8_type_101 : decode cX8_type 101 = .ok (.dup, 1) := by decide +kernel
theorem dX8_type_102 : decode cX8_type 102 = .ok (.getfield 141, 3) := by decide +kernel
theorem dX8_type_105 : decode cX8_type 105 = .ok (.iconst 1, 1) := by decide +kernel
theorem dX8_type_106 : decode cX8_type 106 = .ok (.iadd, 1) := by decide +kernel
theorem dX8_type_107 : decode cX8_type 107 = .ok (.putfield 141, 3) := by decide +kernel
theorem dX8_type_110 : decode cX8_type 110 = .ok (.iinc 4 (-1), 3) := by decide +kernel
theorem dX8_type_113 : decode cX8_type 113 = .ok (.goto (-39), 3) := by decide +kernel
theorem dX8_type_116 : decode cX8_type 116 = .ok (.aload_n 0, 1) := by decide +kernel
theorem dX8_type_117 : decode cX8_type 117 = .ok (.getfield 141, 3) := by decide +kernel
theorem dX8_type_120 : decode cX8_type 120 = .ok (.ireturn, 1) := by decide +kernel
theorem dX8_nextByte_0 : decode cX8_nextByte 0 = .ok (.aload_n 0, 1) := by decide +kernel
theorem dX8_nextByte_1 : decode cX8_nextByte 1 = .ok (.getfield 144, 3) := by decide +kernel
theorem dX8_nextByte_4 : decode cX8_nextByte 4 = .ok (.aload_n 0, 1) := by decide +kernel
theorem dX8_nextByte_5 : decode cX8_nextByte 5 = .ok (.getfield 141, 3) := by decide +kernel
theorem dX8_nextByte_8 : decode cX8_nextByte 8 = .ok (.if_icmp .ge 30, 3) := by decide +kernel
theorem dX8_nextByte_11 : decode cX8_nextByte 11 = .ok (.aload_n 0, 1) := by decide +kernel
theorem dX8_nextByte_12 : decode cX8_nextByte 12 = .ok (.getfield 31, 3) := by decide +kernel
theorem dX8_nextByte_15 : decode cX8_nextByte 15 = .ok (.aload_n 0, 1) := by decide +kernel
theorem dX8_nextByte_16 : decode cX8_nextByte 16 = .ok (.getfield 144, 3) := by decide +kernel
theorem dX8_nextByte_19 : decode cX8_nextByte 19 = .ok (.iaload, 1) := by decide +kernel
theorem dX8_nextByte_20 : decode cX8_nextByte 20 = .ok (.bipush 32, 2) := by decide +kernel
theorem dX8_nextByte_22 : decode cX8_nextByte 22 = .ok (.if_icmp .ne 16, 3) := by decide +kernel
theorem dX8_nextByte_25 : decode cX8_nextByte 25 = .ok (.aload_n 0, 1) := by decide +kernel
theorem dX8_nextByte_26 : decode cX8_nextByte 26 = .ok (.dup, 1) := by decide +kernel
theorem dX8_nextByte_27 : decode cX8_nextByte 27 = .ok (.getfield 144, 3) := by decide +kernel
theorem dX8_nextByte_30 : decode cX8_nextByte 30 = .ok (.iconst 1, 1) := by decide +kernel
theorem dX8_nextByte_31 : decode cX8_nextByte 31 = .ok (.iadd, 1) := by decide +kernel
theorem dX8_nextByte_32 : decode cX8_nextByte 32 = .ok (.putfield 144, 3) := by decide +kernel
theorem dX8_nextByte_35 : decode cX8_nextByte 35 = .ok (.goto (-35), 3) := by decide +kernel
theorem dX8_nextByte_38 : decode cX8_nextByte 38 = .ok (.aload_n 0, 1) := by decide +kernel
theorem dX8_nextByte_39 : decode cX8_nextByte 39 = .ok (.getfield 144, 3) := by decide +kernel
theorem dX8_nextByte_42 : decode cX8_nextByte 42 = .ok (.aload_n 0, 1) := by decide +kernel
theorem dX8_nextByte_43 : decode cX8_nextByte 43 = .ok (.getfield 141, 3) := by decide +kernel
theorem dX8_nextByte_46 : decode cX8_nextByte 46 = .ok (.if_icmp .ge 15, 3) := by decide +kernel
theorem dX8_nextByte_49 : decode cX8_nextByte 49 = .ok (.aload_n 0, 1) := by decide +kernel
theorem dX8_nextByte_50 : decode cX8_nextByte 50 = .ok (.getfield 31, 3) := by decide +kernel
theorem dX8_nextByte_53 : decode cX8_nextByte 53 = .ok (.aload_n 0, 1) := by decide +kernel
theorem dX8_nextByte_54 : decode cX8_nextByte 54 = .ok (.getfield 144, 3) := by decide +kernel
theorem dX8_nextByte_57 : decode cX8_nextByte 57 = .ok (.iaload, 1) := by decide +kernel
theorem dX8_nextByte_58 : decode cX8_nextByte 58 = .ok (.goto 4, 3) := by decide +kernel
theorem dX8_nextByte_61 : decode cX8_nextByte 61 = .ok (.iconst (-1), 1) := by decide +kernel
theorem dX8_nextByte_62 : decode cX8_nextByte 62 = .ok (.ireturn, 1) := by decide +kernel
theorem dX8_readNumber_0 : decode cX8_readNumber 0 = .ok (.aload_n 0, 1) := by decide +kernel
theorem dX8_readNumber_1 : decode cX8_readNumber 1 = .ok (.invokevirtual 147, 3) := by decide +kernel
theorem dX8_readNumber_4 : decode cX8_readNumber 4 = .ok (.pop, 1) := by decide +kernel
theorem dX8_readNumber_5 : decode cX8_readNumber 5 = .ok (.aload_n 0, 1) := by decide +kernel
