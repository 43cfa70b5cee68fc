/-! Instructions (written by a program) -/
theorem d_C_clearSparsestBlock_87 : decode prog_1_method_42_code 87 = .ok (.invokevirtual 250, 3) := by decide +kernel
theorem d_C_clearSparsestBlock_90 : decode prog_1_method_42_code 90 = .ok (.return_, 1) := by decide +kernel
theorem d_C_pause_0 : decode prog_1_method_9_code 0 = .ok (.aload_n 0, 1) := by decide +kernel
theorem d_C_pause_1 : decode prog_1_method_9_code 1 = .ok (.dup, 1) := by decide +kernel
theorem d_C_pause_2 : decode prog_1_method_9_code 2 = .ok (.getfield 113, 3) := by decide +kernel
theorem d_C_pause_5 : decode prog_1_method_9_code 5 = .ok (.iconst 1, 1) := by decide +kernel
theorem d_C_pause_6 : decode prog_1_method_9_code 6 = .ok (.iadd, 1) := by decide +kernel
theorem d_C_pause_7 : decode prog_1_method_9_code 7 = .ok (.putfield 113, 3) := by decide +kernel
theorem d_C_pause_10 : decode prog_1_method_9_code 10 = .ok (.aload_n 0, 1) := by decide +kernel
theorem d_C_pause_11 : decode prog_1_method_9_code 11 = .ok (.ldc 116, 2) := by decide +kernel
theorem d_C_pause_13 : decode prog_1_method_9_code 13 = .ok (.invokevirtual 91, 3) := by decide +kernel
theorem d_C_pause_16 : decode prog_1_method_9_code 16 = .ok (.aload_n 0, 1) := by decide +kernel
theorem d_C_pause_17 : decode prog_1_method_9_code 17 = .ok (.getfield 24, 3) := by decide +kernel
theorem d_C_pause_20 : decode prog_1_method_9_code 20 = .ok (.invokevirtual 117, 3) := by decide +kernel
theorem d_C_pause_23 : decode prog_1_method_9_code 23 = .ok (.aload_n 0, 1) := by decide +kernel
theorem d_C_pause_24 : decode prog_1_method_9_code 24 = .ok (.invokevirtual 120, 3) := by decide +kernel
theorem d_C_pause_27 : decode prog_1_method_9_code 27 = .ok (.istore_n 2, 1) := by decide +kernel
theorem d_C_pause_28 : decode prog_1_method_9_code 28 = .ok (.aload_n 0, 1) := by decide +kernel
theorem d_C_pause_29 : decode prog_1_method_9_code 29 = .ok (.invokevirtual 123, 3) := by decide +kernel
theorem d_C_pause_32 : decode prog_1_method_9_code 32 = .ok (.aload_n 0, 1) := by decide +kernel
theorem d_C_pause_33 : decode prog_1_method_9_code 33 = .ok (.invokevirtual 126, 3) := by decide +kernel
theorem d_C_pause_36 : decode prog_1_method_9_code 36 = .ok (.aload_n 0, 1) := by decide +kernel
theorem d_C_pause_37 : decode prog_1_method_9_code 37 = .ok (.getfield 99, 3) := by decide +kernel
theorem d_C_pause_40 : decode prog_1_method_9_code 40 = .ok (.ifCond .eq 31, 3) := by decide +kernel
theorem d_C_pause_43 : decode prog_1_method_9_code 43 = .ok (.aload_n 0, 1) := by decide +kernel
theorem d_C_pause_44 : decode prog_1_method_9_code 44 = .ok (.invokevirtual 109, 3) := by decide +kernel
theorem d_C_pause_47 : decode prog_1_method_9_code 47 = .ok (.ifCond .ne 24, 3) := by decide +kernel
theorem d_C_pause_50 : decode prog_1_method_9_code 50 = .ok (.aload_n 0, 1) := by decide +kernel
theorem d_C_pause_51 : decode prog_1_method_9_code 51 = .ok (.invokevirtual 129, 3) := by decide +kernel
theorem d_C_pause_54 : decode prog_1_method_9_code 54 = .ok (.aload_n 0, 1) := by decide +kernel
theorem d_C_pause_55 : decode prog_1_method_9_code 55 = .ok (.invokevirtual 132, 3) := by decide +kernel
theorem d_C_pause_58 : decode prog_1_method_9_code 58 = .ok (.aload_n 0, 1) := by decide +kernel
theorem d_C_pause_59 : decode prog_1_method_9_code 59 = .ok (.invokevirtual 135, 3) := by decide +kernel
theorem d_C_pause_62 : decode prog_1_method_9_code 62 = .ok (.aload_n 0, 1) := by decide +kernel
theorem d_C_pause_63 : decode prog_1_method_9_code 63 = .ok (.invokevirtual 138, 3) := by decide +kernel
theorem d_C_pause_66 : decode prog_1_method_9_code 66 = .ok (.aload_n 0, 1) := by decide +kernel
theorem d_C_pause_67 : decode prog_1_method_9_code 67 = .ok (.iconst 0, 1) := by decide +kernel
theorem d_C_pause_68 : decode prog_1_method_9_code 68 = .ok (.putfield 99, 3) := by decide +kernel
theorem d_C_pause_71 : decode prog_1_method_9_code 71 = .ok (.iload_n 1, 1) := by decide +kernel
theorem d_C_pause_72 : decode prog_1_method_9_code 72 = .ok (.ifCond .eq 14, 3) := by decide +kernel
theorem d_C_pause_75 : decode prog_1_method_9_code 75 = .ok (.aload_n 0, 1) := by decide +kernel
theorem d_C_pause_76 : decode prog_1_method_9_code 76 = .ok (.getfield 99, 3) := by decide +kernel
theorem d_C_pause_79 : decode prog_1_method_9_code 79 = .ok (.ifCond .ne 7, 3) := by decide +kernel
theorem d_C_pause_82 : decode prog_1_method_9_code 82 = .ok (.aload_n 0, 1) := by decide +kernel
theorem d_C_pause_83 : decode prog_1_method_9_code 83 = .ok (.invokevirtual 141, 3) := by decide +kernel
theorem d_C_pause_86 : decode prog_1_method_9_code 86 = .ok (.aload_n 0, 1) := by decide +kernel
theorem d_C_pause_87 : decode prog_1_method_9_code 87 = .ok (.getfield 24, 3) := by decide +kernel
theorem d_C_pause_90 : decode prog_1_method_9_code 90 = .ok (.invokevirtual 117, 3) := by decide +kernel
theorem d_C_pause_93 : decode prog_1_method_9_code 93 = .ok (.aload_n 0, 1) := by decide +kernel
theorem d_C_pause_94 : decode prog_1_method_9_code 94 = .ok (.invokevirtual 144, 3) := by decide +kernel
theorem d_C_pause_97 : decode prog_1_method_9_code 97 = .ok (.iload_n 2, 1) := by decide +kernel
theorem d_C_pause_98 : decode prog_1_method_9_code 98 = .ok (.ireturn, 1) := by decide +kernel
theorem d_C_blacken_0 : decode prog_1_method_30_code 0 = .ok (.aload_n 0, 1) := by decide +kernel
theorem d_C_blacken_1 : decode prog_1_method_30_code 1 = .ok (.iconst 2, 1) := by decide +kernel
theorem d_C_blacken_2 : decode prog_1_method_30_code 2 = .ok (.putfield 169, 3) := by decide +kernel
theorem d_C_blacken_5 : decode prog_1_method_30_code 5 = .ok (.aload_n 0, 1) := by decide +kernel
theorem d_C_blacken_6 : decode prog_1_method_30_code 6 = .ok (.getfield 73, 3) := by decide +kernel
theorem d_C_blacken_9 : decode prog_1_method_30_code 9 = .ok (.astore_n 1, 1) := by decide +kernel
theorem d_C_blacken_10 : decode prog_1_method_30_code 10 = .ok (.aload_n 1, 1) := by decide +kernel
theorem d_C_blacken_11 : decode prog_1_method_30_code 11 = .ok (.arraylength, 1) := by decide +kernel
theorem d_C_blacken_12 : decode prog_1_method_30_code 12 = .ok (.istore_n 2, 1) := by decide +kernel
theorem d_C_blacken_13 : decode prog_1_method_30_code 13 = .ok (.iconst 0, 1) := by decide +kernel
theorem d_C_blacken_14 : decode prog_1_method_30_code 14 = .ok (.istore_n 3, 1) := by decide +kernel
theorem d_C_blacken_15 : decode prog_1_method_30_code 15 = .ok (.iload_n 3, 1) := by decide +kernel
theorem d_C_blacken_16 : decode prog_1_method_30_code 16 = .ok (.iload_n 2, 1) := by decide +kernel
theorem d_C_blacken_17 : decode prog_1_method_30_code 17 = .ok (.if_icmp .ge 24, 3) := by decide +kernel
theorem d_C_blacken_20 : decode prog_1_method_30_code 20 = .ok (.aload_n 1, 1) := by decide +kernel
theorem d_C_blacken_21 : decode prog_1_method_30_code 21 = .ok (.iload_n 3, 1) := by decide +kernel
theorem d_C_blacken_22 : decode prog_1_method_30_code 22 = .ok (.aaload, 1) := by decide +kernel
theorem d_C_blacken_23 : decode prog_1_method_30_code 23 = .ok (.astore 4, 2) := by decide +kernel
theorem d_C_blacken_25 : decode prog_1_method_30_code 25 = .ok (.aload 4, 2) := by decide +kernel
theorem d_C_blacken_27 : decode prog_1_method_30_code 27 = .ok (.ifnull 8, 3) := by decide +kernel
theorem d_C_blacken_30 : decode prog_1_method_30_code 30 = .ok (.aload 4, 2) := by decide +kernel
theorem d_C_blacken_32 : decode prog_1_method_30_code 32 = .ok (.invokevirtual 220, 3) := by decide +kernel
theorem d_C_blacken_35 : decode prog_1_method_30_code 35 = .ok (.iinc 3 1, 3) := by decide +kernel
theorem d_C_blacken_38 : decode prog_1_method_30_code 38 = .ok (.goto (-23), 3) := by decide +kernel
theorem d_C_blacken_41 : decode prog_1_method_30_code 41 = .ok (.return_, 1) := by decide +kernel
theorem d_C_blackenFirstGrey_0 : decode prog_1_method_29_code 0 = .ok (.aload_n 0, 1) := by decide +kernel
theorem d_C_blackenFirstGrey_1 : decode prog_1_method_29_code 1 = .ok (.getfield 18, 3) := by decide +kernel
theorem d_C_blackenFirstGrey_4 : decode prog_1_method_29_code 4 = .ok (.astore_n 1, 1) := by decide +kernel
theorem d_C_blackenFirstGrey_5 : decode prog_1_method_29_code 5 = .ok (.aload_n 1, 1) := by decide +kernel
theorem d_C_blackenFirstGrey_6 : decode prog_1_method_29_code 6 = .ok (.arraylength, 1) := by decide +kernel
theorem d_C_blackenFirstGrey_7 : decode prog_1_method_29_code 7 = .ok (.istore_n 2, 1) := by decide +kernel
theorem d_C_blackenFirstGrey_8 : decode prog_1_method_29_code 8 = .ok (.iconst 0, 1) := by decide +kernel
theorem d_C_blackenFirstGrey_9 : decode prog_1_method_29_code 9 = .ok (.istore_n 3, 1) := by decide +kernel
theorem d_C_blackenFirstGrey_10 : decode prog_1_method_29_code 10 = .ok (.iload_n 3, 1) := by decide +kernel
theorem d_C_blackenFirstGrey_11 : decode prog_1_method_29_code 11 = .ok (.iload_n 2, 1) := by decide +kernel
theorem d_C_blackenFirstGrey_12 : decode prog_1_method_29_code 12 = .ok (.if_icmp .ge 35, 3) := by decide +kernel
theorem d_C_blackenFirstGrey_15 : decode prog_1_method_29_code 15 = .ok (.aload_n 1, 1) := by decide +kernel
theorem d_C_blackenFirstGrey_16 : decode prog_1_method_29_code 16 = .ok (.iload_n 3, 1) := by decide +kernel
theorem d_C_blackenFirstGrey_17 : decode prog_1_method_29_code 17 = .ok (.aaload, 1) := by decide +kernel
theorem d_C_blackenFirstGrey_18 : decode prog_1_method_29_code 18 = .ok (.astore 4, 2) := by decide +kernel
theorem d_C_blackenFirstGrey_20 : decode prog_1_method_29_code 20 = .ok (.aload 4, 2) := by decide +kernel
theorem d_C_blackenFirstGrey_22 : decode prog_1_method_29_code 22 = .ok (.ifnull 19, 3) := by decide +kernel
theorem d_C_blackenFirstGrey_25 : decode prog_1_method_29_code 25 = .ok (.aload 4, 2) := by decide +kernel
theorem d_C_blackenFirstGrey_27 : decode prog_1_method_29_code 27 = .ok (.getfield 169, 3) := by decide +kernel
theorem d_C_blackenFirstGrey_30 : decode prog_1_method_29_code 30 = .ok (.iconst 1, 1) := by decide +kernel
theorem d_C_blackenFirstGrey_31 : decode prog_1_method_29_code 31 = .ok (.if_icmp .ne 10, 3) := by decide +kernel
theorem d_C_blackenFirstGrey_34 : decode prog_1_method_29_code 34 = .ok (.aload 4, 2) := by decide +kernel
theorem d_C_blackenFirstGrey_36 : decode prog_1_method_29_code 36 = .ok (.invokestatic 226, 3) := by decide +kernel
theorem d_C_blackenFirstGrey_39 : decode prog_1_method_29_code 39 = .ok (.iconst 1, 1) := by decide +kernel
theorem d_C_blackenFirstGrey_40 : decode prog_1_method_29_code 40 = .ok (.ireturn, 1) := by decide +kernel
theorem d_C_blackenFirstGrey_41 : decode prog_1_method_29_code 41 = .ok (.iinc 3 1, 3) := by decide +kernel
theorem d_C_blackenFirstGrey_44 : decode prog_1_method_29_code 44 = .ok (.goto (-34), 3) := by decide +kernel
theorem d_C_blackenFirstGrey_47 : decode prog_1_method_29_code 47 = .ok (.iconst 0, 1) := by decide +kernel
theorem d_C_blackenFirstGrey_48 : decode prog_1_method_29_code 48 = .ok (.ireturn, 1) := by decide +kernel
theorem d_C_stepUpTo_0 : decode prog_1_method_28_code 0 = .ok (.iconst 1, 1) := by decide +kernel
theorem d_C_stepUpTo_1 : decode prog_1_method_28_code 1 = .ok (.istore_n 2, 1) := by decide +kernel
theorem d_C_stepUpTo_2 : decode prog_1_method_28_code 2 = .ok (.iconst 0, 1) := by decide +kernel
theorem d_C_stepUpTo_3 : decode prog_1_method_28_code 3 = .ok (.istore_n 3, 1) := by decide +kernel
theorem d_C_stepUpTo_4 : decode prog_1_method_28_code 4 = .ok (.iload_n 3, 1) := by decide +kernel
theorem d_C_stepUpTo_5 : decode prog_1_method_28_code 5 = .ok (.iload_n 1, 1) := by decide +kernel
theorem d_C_stepUpTo_6 : decode prog_1_method_28_code 6 = .ok (.if_icmp .ge 18, 3) := by decide +kernel
theorem d_C_stepUpTo_9 : decode prog_1_method_28_code 9 = .ok (.iload_n 2, 1) := by decide +kernel
theorem d_C_stepUpTo_10 : decode prog_1_method_28_code 10 = .ok (.ifCond .eq 14, 3) := by decide +kernel
theorem d_C_stepUpTo_13 : decode prog_1_method_28_code 13 = .ok (.aload_n 0, 1) := by decide +kernel
theorem d_C_stepUpTo_14 : decode prog_1_method_28_code 14 = .ok (.invokevirtual 223, 3) := by decide +kernel
theorem d_C_stepUpTo_17 : decode prog_1_method_28_code 17 = .ok (.istore_n 2, 1) := by decide +kernel
theorem d_C_stepUpTo_18 : decode prog_1_method_28_code 18 = .ok (.iinc 3 1, 3) := by decide +kernel
theorem d_C_stepUpTo_21 : decode prog_1_method_28_code 21 = .ok (.goto (-17), 3) := by decide +kernel
theorem d_C_stepUpTo_24 : decode prog_1_method_28_code 24 = .ok (.return_, 1) := by decide +kernel
theorem d_C_collect_0 : decode prog_1_method_25_code 0 = .ok (.aload_n 0, 1) := by decide +kernel
theorem d_C_collect_1 : decode prog_1_method_25_code 1 = .ok (.iconst 1, 1) := by decide +kernel
theorem d_C_collect_2 : decode prog_1_method_25_code 2 = .ok (.invokevirtual 203, 3) := by decide +kernel
theorem d_C_collect_5 : decode prog_1_method_25_code 5 = .ok (.pop, 1) := by decide +kernel
theorem d_C_collect_6 : decode prog_1_method_25_code 6 = .ok (.aload_n 0, 1) := by decide +kernel
theorem d_C_collect_7 : decode prog_1_method_25_code 7 = .ok (.ldc 116, 2) := by decide +kernel
theorem d_C_collect_9 : decode prog_1_method_25_code 9 = .ok (.invokevirtual 106, 3) := by decide +kernel
theorem d_C_collect_12 : decode prog_1_method_25_code 12 = .ok (.aload_n 0, 1) := by decide +kernel
theorem d_C_collect_13 : decode prog_1_method_25_code 13 = .ok (.iconst 0, 1) := by decide +kernel
theorem d_C_collect_14 : decode prog_1_method_25_code 14 = .ok (.invokevirtual 203, 3) := by decide +kernel
theorem d_C_collect_17 : decode prog_1_method_25_code 17 = .ok (.pop, 1) := by decide +kernel
theorem d_C_collect_18 : decode prog_1_method_25_code 18 = .ok (.aload_n 0, 1) := by decide +kernel
theorem d_C_collect_19 : decode prog_1_method_25_code 19 = .ok (.ldc 116, 2) := by decide +kernel
theorem d_C_collect_21 : decode prog_1_method_25_code 21 = .ok (.invokevirtual 91, 3) := by decide +kernel
theorem d_C_collect_24 : decode prog_1_method_25_code 24 = .ok (.return_, 1) := by decide +kernel
theorem d_C_allocate_0 : decode prog_1_method_2_code 0 = .ok (.iload_n 1, 1) := by decide +kernel
theorem d_C_allocate_1 : decode prog_1_method_2_code 1 = .ok (.invokestatic 45, 3) := by decide +kernel
theorem d_C_allocate_4 : decode prog_1_method_2_code 4 = .ok (.ifCond .eq 14, 3) := by decide +kernel
theorem d_C_allocate_7 : decode prog_1_method_2_code 7 = .ok (.iload_n 2, 1) := by decide +kernel
theorem d_C_allocate_8 : decode prog_1_method_2_code 8 = .ok (.iconst 1, 1) := by decide +kernel
theorem d_C_allocate_9 : decode prog_1_method_2_code 9 = .ok (.if_icmp .lt 9, 3) := by decide +kernel
theorem d_C_allocate_12 : decode prog_1_method_2_code 12 = .ok (.iload_n 2, 1) := by decide +kernel
theorem d_C_allocate_13 : decode prog_1_method_2_code 13 = .ok (.bipush 12, 2) := by decide +kernel
theorem d_C_allocate_15 : decode prog_1_method_2_code 15 = .ok (.if_icmp .le 11, 3) := by decide +kernel
theorem d_C_allocate_18 : decode prog_1_method_2_code 18 = .ok (.new 49, 3) := by decide +kernel
theorem d_C_allocate_21 : decode prog_1_method_2_code 21 = .ok (.dup, 1) := by decide +kernel
theorem d_C_allocate_22 : decode prog_1_method_2_code 22 = .ok (.invokespecial 51, 3) := by decide +kernel
theorem d_C_allocate_25 : decode prog_1_method_2_code 25 = .ok (.athrow, 1) := by decide +kernel
theorem d_C_allocate_26 : decode prog_1_method_2_code 26 = .ok (.aload_n 0, 1) := by decide +kernel
theorem d_C_allocate_27 : decode prog_1_method_2_code 27 = .ok (.getfield 24, 3) := by decide +kernel
theorem d_C_allocate_30 : decode prog_1_method_2_code 30 = .ok (.iload_n 2, 1) := by decide +kernel
theorem d_C_allocate_31 : decode prog_1_method_2_code 31 = .ok (.invokevirtual 52, 3) := by decide +kernel
theorem d_C_allocate_34 : decode prog_1_method_2_code 34 = .ok (.istore 4, 2) := by decide +kernel
theorem d_C_allocate_36 : decode prog_1_method_2_code 36 = .ok (.iload 4, 2) := by decide +kernel
theorem d_C_allocate_38 : decode prog_1_method_2_code 38 = .ok (.iconst (-1), 1) := by decide +kernel
theorem d_C_allocate_39 : decode prog_1_method_2_code 39 = .ok (.if_icmp .ne 17, 3) := by decide +kernel
theorem d_C_allocate_42 : decode prog_1_method_2_code 42 = .ok (.aload_n 0, 1) := by decide +kernel
theorem d_C_allocate_43 : decode prog_1_method_2_code 43 = .ok (.invokevirtual 56, 3) := by decide +kernel
theorem d_C_allocate_46 : decode prog_1_method_2_code 46 = .ok (.aload_n 0, 1) := by decide +kernel
theorem d_C_allocate_47 : decode prog_1_method_2_code 47 = .ok (.getfield 24, 3) := by decide +kernel
theorem d_C_allocate_50 : decode prog_1_method_2_code 50 = .ok (.iload_n 2, 1) := by decide +kernel
theorem d_C_allocate_51 : decode prog_1_method_2_code 51 = .ok (.invokevirtual 52, 3) := by decide +kernel
theorem d_C_allocate_54 : decode prog_1_method_2_code 54 = .ok (.istore 4, 2) := by decide +kernel
theorem d_C_allocate_56 : decode prog_1_method_2_code 56 = .ok (.iload 4, 2) := by decide +kernel
theorem d_C_allocate_58 : decode prog_1_method_2_code 58 = .ok (.iconst (-1), 1) := by decide +kernel
theorem d_C_allocate_59 : decode prog_1_method_2_code 59 = .ok (.if_icmp .ne 11, 3) := by decide +kernel
theorem d_C_allocate_62 : decode prog_1_method_2_code 62 = .ok (.new 59, 3) := by decide +kernel
theorem d_C_allocate_65 : decode prog_1_method_2_code 65 = .ok (.dup, 1) := by decide +kernel
theorem d_C_allocate_66 : decode prog_1_method_2_code 66 = .ok (.invokespecial 61, 3) := by decide +kernel
theorem d_C_allocate_69 : decode prog_1_method_2_code 69 = .ok (.athrow, 1) := by decide +kernel
theorem d_C_allocate_70 : decode prog_1_method_2_code 70 = .ok (.new 9, 3) := by decide +kernel
theorem d_C_allocate_73 : decode prog_1_method_2_code 73 = .ok (.dup, 1) := by decide +kernel
theorem d_C_allocate_74 : decode prog_1_method_2_code 74 = .ok (.iload_n 2, 1) := by decide +kernel
theorem d_C_allocate_75 : decode prog_1_method_2_code 75 = .ok (.iload_n 3, 1) := by decide +kernel
theorem d_C_allocate_76 : decode prog_1_method_2_code 76 = .ok (.invokespecial 62, 3) := by decide +kernel
theorem d_C_allocate_79 : decode prog_1_method_2_code 79 = .ok (.astore 5, 2) := by decide +kernel
theorem d_C_allocate_81 : decode prog_1_method_2_code 81 = .ok (.aload_n 0, 1) := by decide +kernel
theorem d_C_allocate_82 : decode prog_1_method_2_code 82 = .ok (.aload 5, 2) := by decide +kernel
theorem d_C_allocate_84 : decode prog_1_method_2_code 84 = .ok (.iload 4, 2) := by decide +kernel
theorem d_C_allocate_86 : decode prog_1_method_2_code 86 = .ok (.invokevirtual 65, 3) := by decide +kernel
theorem d_C_allocate_89 : decode prog_1_method_2_code 89 = .ok (.aload_n 0, 1) := by decide +kernel
theorem d_C_allocate_90 : decode prog_1_method_2_code 90 = .ok (.getfield 11, 3) := by decide +kernel
theorem d_C_allocate_93 : decode prog_1_method_2_code 93 = .ok (.iload_n 1, 1) := by decide +kernel
theorem d_C_allocate_94 : decode prog_1_method_2_code 94 = .ok (.aload 5, 2) := by decide +kernel
theorem d_C_allocate_96 : decode prog_1_method_2_code 96 = .ok (.aastore, 1) := by decide +kernel
theorem d_C_allocate_97 : decode prog_1_method_2_code 97 = .ok (.iload 4, 2) := by decide +kernel
theorem d_C_allocate_99 : decode prog_1_method_2_code 99 = .ok (.ireturn, 1) := by decide +kernel
theorem d_C_drop_0 : decode prog_1_method_3_code 0 = .ok (.iload_n 1, 1) := by decide +kernel
theorem d_C_drop_1 : decode prog_1_method_3_code 1 = .ok (.invokestatic 45, 3) := by decide +kernel
theorem d_C_drop_4 : decode prog_1_method_3_code 4 = .ok (.ifCond .ne 11, 3) := by decide +kernel
theorem d_C_drop_7 : decode prog_1_method_3_code 7 = .ok (.new 49, 3) := by decide +kernel
theorem d_C_drop_10 : decode prog_1_method_3_code 10 = .ok (.dup, 1) := by decide +kernel
theorem d_C_drop_11 : decode prog_1_method_3_code 11 = .ok (.invokespecial 51, 3) := by decide +kernel
theorem d_C_drop_14 : decode prog_1_method_3_code 14 = .ok (.athrow, 1) := by decide +kernel
theorem d_C_drop_15 : decode prog_1_method_3_code 15 = .ok (.aload_n 0, 1) := by decide +kernel
theorem d_C_drop_16 : decode prog_1_method_3_code 16 = .ok (.getfield 11, 3) := by decide +kernel
theorem d_C_drop_19 : decode prog_1_method_3_code 19 = .ok (.iload_n 1, 1) := by decide +kernel
theorem d_C_drop_20 : decode prog_1_method_3_code 20 = .ok (.aconst_null, 1) := by decide +kernel
theorem d_C_drop_21 : decode prog_1_method_3_code 21 = .ok (.aastore, 1) := by decide +kernel
theorem d_C_drop_22 : decode prog_1_method_3_code 22 = .ok (.return_, 1) := by decide +kernel
theorem d_C_copy_0 : decode prog_1_method_4_code 0 = .ok (.iload_n 1, 1) := by decide +kernel
theorem d_C_copy_1 : decode prog_1_method_4_code 1 = .ok (.invokestatic 45, 3) := by decide +kernel
theorem d_C_copy_4 : decode prog_1_method_4_code 4 = .ok (.ifCond .eq 10, 3) := by decide +kernel
theorem d_C_copy_7 : decode prog_1_method_4_code 7 = .ok (.iload_n 2, 1) := by decide +kernel
theorem d_C_copy_8 : decode prog_1_method_4_code 8 = .ok (.invokestatic 45, 3) := by decide +kernel
theorem d_C_copy_11 : decode prog_1_method_4_code 11 = .ok (.ifCond .ne 11, 3) := by decide +kernel
theorem d_C_copy_14 : decode prog_1_method_4_code 14 = .ok (.new 49, 3) := by decide +kernel
theorem d_C_copy_17 : decode prog_1_method_4_code 17 = .ok (.dup, 1) := by decide +kernel
theorem d_C_copy_18 : decode prog_1_method_4_code 18 = .ok (.invokespecial 51, 3) := by decide +kernel
theorem d_C_copy_21 : decode prog_1_method_4_code 21 = .ok (.athrow, 1) := by decide +kernel
theorem d_C_copy_22 : decode prog_1_method_4_code 22 = .ok (.aload_n 0, 1) := by decide +kernel
theorem d_C_copy_23 : decode prog_1_method_4_code 23 = .ok (.getfield 11, 3) := by decide +kernel
theorem d_C_copy_26 : decode prog_1_method_4_code 26 = .ok (.iload_n 1, 1) := by decide +kernel
theorem d_C_copy_27 : decode prog_1_method_4_code 27 = .ok (.aload_n 0, 1) := by decide +kernel
theorem d_C_copy_28 : decode prog_1_method_4_code 28 = .ok (.getfield 11, 3) := by decide +kernel
theorem d_C_copy_31 : decode prog_1_method_4_code 31 = .ok (.iload_n 2, 1) := by decide +kernel
theorem d_C_copy_32 : decode prog_1_method_4_code 32 = .ok (.aaload, 1) := by decide +kernel
theorem d_C_copy_33 : decode prog_1_method_4_code 33 = .ok (.aastore, 1) := by decide +kernel
theorem d_C_copy_34 : decode prog_1_method_4_code 34 = .ok (.return_, 1) := by decide +kernel
theorem d_I_hasField_0 : decode prog_2_method_2_code 0 = .ok (.iload_n 1, 1) := by decide +kernel
theorem d_I_hasField_1 : decode prog_2_method_2_code 1 = .ok (.ifCond .lt 15, 3) := by decide +kernel
theorem d_I_hasField_4 : decode prog_2_method_2_code 4 = .ok (.iload_n 1, 1) := by decide +kernel
theorem d_I_hasField_5 : decode prog_2_method_2_code 5 = .ok (.aload_n 0, 1) := by decide +kernel
theorem d_I_hasField_6 : decode prog_2_method_2_code 6 = .ok (.getfield 9, 3) := by decide +kernel
theorem d_I_hasField_9 : decode prog_2_method_2_code 9 = .ok (.if_icmp .ge 7, 3) := by decide +kernel
theorem d_I_hasField_12 : decode prog_2_method_2_code 12 = .ok (.iconst 1, 1) := by decide +kernel
theorem d_I_hasField_13 : decode prog_2_method_2_code 13 = .ok (.goto 4, 3) := by decide +kernel
theorem d_I_hasField_16 : decode prog_2_method_2_code 16 = .ok (.iconst 0, 1) := by decide +kernel
theorem d_I_hasField_17 : decode prog_2_method_2_code 17 = .ok (.ireturn, 1) := by decide +kernel
theorem d_C_itemWithField_0 : decode prog_1_method_16_code 0 = .ok (.iload_n 1, 1) := by decide +kernel
theorem d_C_itemWithField_1 : decode prog_1_method_16_code 1 = .ok (.invokestatic 45, 3) := by decide +kernel
theorem d_C_itemWithField_4 : decode prog_1_method_16_code 4 = .ok (.ifCond .eq 10, 3) := by decide +kernel
theorem d_C_itemWithField_7 : decode prog_1_method_16_code 7 = .ok (.iload_n 3, 1) := by decide +kernel
theorem d_C_itemWithField_8 : decode prog_1_method_16_code 8 = .ok (.invokestatic 45, 3) := by decide +kernel
theorem d_C_itemWithField_11 : decode prog_1_method_16_code 11 = .ok (.ifCond .ne 11, 3) := by decide +kernel
theorem d_C_itemWithField_14 : decode prog_1_method_16_code 14 = .ok (.new 49, 3) := by decide +kernel
theorem d_C_itemWithField_17 : decode prog_1_method_16_code 17 = .ok (.dup, 1) := by decide +kernel
theorem d_C_itemWithField_18 : decode prog_1_method_16_code 18 = .ok (.invokespecial 51, 3) := by decide +kernel
theorem d_C_itemWithField_21 : decode prog_1_method_16_code 21 = .ok (.athrow, 1) := by decide +kernel
theorem d_C_itemWithField_22 : decode prog_1_method_16_code 22 = .ok (.aload_n 0, 1) := by decide +kernel
theorem d_C_itemWithField_23 : decode prog_1_method_16_code 23 = .ok (.getfield 11, 3) := by decide +kernel
theorem d_C_itemWithField_26 : decode prog_1_method_16_code 26 = .ok (.iload_n 1, 1) := by decide +kernel
theorem d_C_itemWithField_27 : decode prog_1_method_16_code 27 = .ok (.aaload, 1) := by decide +kernel
theorem d_C_itemWithField_28 : decode prog_1_method_16_code 28 = .ok (.astore 4, 2) := by decide +kernel
theorem d_C_itemWithField_30 : decode prog_1_method_16_code 30 = .ok (.aload 4, 2) := by decide +kernel
theorem d_C_itemWithField_32 : decode prog_1_method_16_code 32 = .ok (.ifnonnull 11, 3) := by decide +kernel
theorem d_C_itemWithField_35 : decode prog_1_method_16_code 35 = .ok (.new 103, 3) := by decide +kernel
theorem d_C_itemWithField_38 : decode prog_1_method_16_code 38 = .ok (.dup, 1) := by decide +kernel
theorem d_C_itemWithField_39 : decode prog_1_method_16_code 39 = .ok (.invokespecial 105, 3) := by decide +kernel
theorem d_C_itemWithField_42 : decode prog_1_method_16_code 42 = .ok (.athrow, 1) := by decide +kernel
theorem d_C_itemWithField_43 : decode prog_1_method_16_code 43 = .ok (.aload 4, 2) := by decide +kernel
theorem d_C_itemWithField_45 : decode prog_1_method_16_code 45 = .ok (.iload_n 2, 1) := by decide +kernel
theorem d_C_itemWithField_46 : decode prog_1_method_16_code 46 = .ok (.invokevirtual 154, 3) := by decide +kernel
theorem d_C_itemWithField_49 : decode prog_1_method_16_code 49 = .ok (.ifCond .ne 11, 3) := by decide +kernel
theorem d_C_itemWithField_52 : decode prog_1_method_16_code 52 = .ok (.new 157, 3) := by decide +kernel
theorem d_C_itemWithField_55 : decode prog_1_method_16_code 55 = .ok (.dup, 1) := by decide +kernel
theorem d_C_itemWithField_56 : decode prog_1_method_16_code 56 = .ok (.invokespecial 159, 3) := by decide +kernel
theorem d_C_itemWithField_59 : decode prog_1_method_16_code 59 = .ok (.athrow, 1) := by decide +kernel
theorem d_C_itemWithField_60 : decode prog_1_method_16_code 60 = .ok (.aload 4, 2) := by decide +kernel
theorem d_C_itemWithField_62 : decode prog_1_method_16_code 62 = .ok (.areturn, 1) := by decide +kernel
theorem d_C_addressOf_0 : decode prog_1_method_17_code 0 = .ok (.aload_n 0, 1) := by decide +kernel
theorem d_C_addressOf_1 : decode prog_1_method_17_code 1 = .ok (.ifnonnull 7, 3) := by decide +kernel
theorem d_C_addressOf_4 : decode prog_1_method_17_code 4 = .ok (.iconst (-1), 1) := by decide +kernel
theorem d_C_addressOf_5 : decode prog_1_method_17_code 5 = .ok (.goto 7, 3) := by decide +kernel
theorem d_C_addressOf_8 : decode prog_1_method_17_code 8 = .ok (.aload_n 0, 1) := by decide +kernel
theorem d_C_addressOf_9 : decode prog_1_method_17_code 9 = .ok (.getfield 191, 3) := by decide +kernel
theorem d_C_addressOf_12 : decode prog_1_method_17_code 12 = .ok (.ireturn, 1) := by decide +kernel
theorem d_C_load_0 : decode prog_1_method_5_code 0 = .ok (.aload_n 0, 1) := by decide +kernel
theorem d_C_load_1 : decode prog_1_method_5_code 1 = .ok (.iload_n 2, 1) := by decide +kernel
theorem d_C_load_2 : decode prog_1_method_5_code 2 = .ok (.iload_n 3, 1) := by decide +kernel
theorem d_C_load_3 : decode prog_1_method_5_code 3 = .ok (.iload_n 1, 1) := by decide +kernel
theorem d_C_load_4 : decode prog_1_method_5_code 4 = .ok (.invokevirtual 69, 3) := by decide +kernel
theorem d_C_load_7 : decode prog_1_method_5_code 7 = .ok (.astore 4, 2) := by decide +kernel
theorem d_C_load_9 : decode prog_1_method_5_code 9 = .ok (.aload_n 0, 1) := by decide +kernel
theorem d_C_load_10 : decode prog_1_method_5_code 10 = .ok (.getfield 11, 3) := by decide +kernel
theorem d_C_load_13 : decode prog_1_method_5_code 13 = .ok (.iload_n 1, 1) := by decide +kernel
theorem d_C_load_14 : decode prog_1_method_5_code 14 = .ok (.aload 4, 2) := by decide +kernel
theorem d_C_load_16 : decode prog_1_method_5_code 16 = .ok (.getfield 73, 3) := by decide +kernel
theorem d_C_load_19 : decode prog_1_method_5_code 19 = .ok (.iload_n 3, 1) := by decide +kernel
theorem d_C_load_20 : decode prog_1_method_5_code 20 = .ok (.aaload, 1) := by decide +kernel
theorem d_C_load_21 : decode prog_1_method_5_code 21 = .ok (.aastore, 1) := by decide +kernel
theorem d_C_load_22 : decode prog_1_method_5_code 22 = .ok (.aload_n 0, 1) := by decide +kernel
theorem d_C_load_23 : decode prog_1_method_5_code 23 = .ok (.getfield 11, 3) := by decide +kernel
theorem d_C_load_26 : decode prog_1_method_5_code 26 = .ok (.iload_n 1, 1) := by decide +kernel
theorem d_C_load_27 : decode prog_1_method_5_code 27 = .ok (.aaload, 1) := by decide +kernel
theorem d_C_load_28 : decode prog_1_method_5_code 28 = .ok (.invokestatic 76, 3) := by decide +kernel
theorem d_C_load_31 : decode prog_1_method_5_code 31 = .ok (.ireturn, 1) := by decide +kernel
theorem d_G_add_0 : decode prog_3_method_2_code 0 = .ok (.aload_n 0, 1) := by decide +kernel
theorem d_G_add_1 : decode prog_3_method_2_code 1 = .ok (.getfield 24, 3) := by decide +kernel
theorem d_G_add_4 : decode prog_3_method_2_code 4 = .ok (.sipush 128, 3) := by decide +kernel
theorem d_G_add_7 : decode prog_3_method_2_code 7 = .ok (.if_icmp .ge 55, 3) := by decide +kernel
theorem d_G_add_10 : decode prog_3_method_2_code 10 = .ok (.aload_n 0, 1) := by decide +kernel
theorem d_G_add_11 : decode prog_3_method_2_code 11 = .ok (.getfield 11, 3) := by decide +kernel
theorem d_G_add_14 : decode prog_3_method_2_code 14 = .ok (.aload_n 0, 1) := by decide +kernel
theorem d_G_add_15 : decode prog_3_method_2_code 15 = .ok (.getfield 24, 3) := by decide +kernel
theorem d_G_add_18 : decode prog_3_method_2_code 18 = .ok (.aload_n 1, 1) := by decide +kernel
theorem d_G_add_19 : decode prog_3_method_2_code 19 = .ok (.aastore, 1) := by decide +kernel
theorem d_G_add_20 : decode prog_3_method_2_code 20 = .ok (.aload_n 0, 1) := by decide +kernel
theorem d_G_add_21 : decode prog_3_method_2_code 21 = .ok (.getfield 17, 3) := by decide +kernel
theorem d_G_add_24 : decode prog_3_method_2_code 24 = .ok (.aload_n 0, 1) := by decide +kernel
theorem d_G_add_25 : decode prog_3_method_2_code 25 = .ok (.getfield 24, 3) := by decide +kernel
theorem d_G_add_28 : decode prog_3_method_2_code 28 = .ok (.iload_n 2, 1) := by decide +kernel
theorem d_G_add_29 : decode prog_3_method_2_code 29 = .ok (.iastore, 1) := by decide +kernel
theorem d_G_add_30 : decode prog_3_method_2_code 30 = .ok (.aload_n 0, 1) := by decide +kernel
theorem d_G_add_31 : decode prog_3_method_2_code 31 = .ok (.getfield 21, 3) := by decide +kernel
theorem d_G_add_34 : decode prog_3_method_2_code 34 = .ok (.aload_n 0, 1) := by decide +kernel
theorem d_G_add_35 : decode prog_3_method_2_code 35 = .ok (.getfield 24, 3) := by decide +kernel
theorem d_G_add_38 : decode prog_3_method_2_code 38 = .ok (.aload_n 1, 1) := by decide +kernel
theorem d_G_add_39 : decode prog_3_method_2_code 39 = .ok (.getfield 28, 3) := by decide +kernel
theorem d_G_add_42 : decode prog_3_method_2_code 42 = .ok (.iload_n 2, 1) := by decide +kernel
theorem d_G_add_43 : decode prog_3_method_2_code 43 = .ok (.aaload, 1) := by decide +kernel
theorem d_G_add_44 : decode prog_3_method_2_code 44 = .ok (.aastore, 1) := by decide +kernel
theorem d_G_add_45 : decode prog_3_method_2_code 45 = .ok (.aload_n 1, 1) := by decide +kernel
theorem d_G_add_46 : decode prog_3_method_2_code 46 = .ok (.getfield 31, 3) := by decide +kernel
theorem d_G_add_49 : decode prog_3_method_2_code 49 = .ok (.iload_n 2, 1) := by decide +kernel
theorem d_G_add_50 : decode prog_3_method_2_code 50 = .ok (.iconst 1, 1) := by decide +kernel
theorem d_G_add_51 : decode prog_3_method_2_code 51 = .ok (.bastore, 1) := by decide +kernel
theorem d_G_add_52 : decode prog_3_method_2_code 52 = .ok (.aload_n 0, 1) := by decide +kernel
theorem d_G_add_53 : decode prog_3_method_2_code 53 = .ok (.dup, 1) := by decide +kernel
theorem d_G_add_54 : decode prog_3_method_2_code 54 = .ok (.getfield 24, 3) := by decide +kernel
theorem d_G_add_57 : decode prog_3_method_2_code 57 = .ok (.iconst 1, 1) := by decide +kernel
theorem d_G_add_58 : decode prog_3_method_2_code 58 = .ok (.iadd, 1) := by decide +kernel
theorem d_G_add_59 : decode prog_3_method_2_code 59 = .ok (.putfield 24, 3) := by decide +kernel
theorem d_G_add_62 : decode prog_3_method_2_code 62 = .ok (.return_, 1) := by decide +kernel
theorem d_C_store_0 : decode prog_1_method_6_code 0 = .ok (.aload_n 0, 1) := by decide +kernel
theorem d_C_store_1 : decode prog_1_method_6_code 1 = .ok (.iload_n 1, 1) := by decide +kernel
theorem d_C_store_2 : decode prog_1_method_6_code 2 = .ok (.iload_n 2, 1) := by decide +kernel
theorem d_C_store_3 : decode prog_1_method_6_code 3 = .ok (.iload_n 3, 1) := by decide +kernel
theorem d_C_store_4 : decode prog_1_method_6_code 4 = .ok (.invokevirtual 69, 3) := by decide +kernel
theorem d_C_store_7 : decode prog_1_method_6_code 7 = .ok (.astore 4, 2) := by decide +kernel
theorem d_C_store_9 : decode prog_1_method_6_code 9 = .ok (.aload 4, 2) := by decide +kernel
theorem d_C_store_11 : decode prog_1_method_6_code 11 = .ok (.invokevirtual 80, 3) := by decide +kernel
theorem d_C_store_14 : decode prog_1_method_6_code 14 = .ok (.ifCond .eq 23, 3) := by decide +kernel
theorem d_C_store_17 : decode prog_1_method_6_code 17 = .ok (.aload 4, 2) := by decide +kernel
theorem d_C_store_19 : decode prog_1_method_6_code 19 = .ok (.getfield 84, 3) := by decide +kernel
theorem d_C_store_22 : decode prog_1_method_6_code 22 = .ok (.iload_n 2, 1) := by decide +kernel
theorem d_C_store_23 : decode prog_1_method_6_code 23 = .ok (.baload, 1) := by decide +kernel
theorem d_C_store_24 : decode prog_1_method_6_code 24 = .ok (.ifCond .ne 13, 3) := by decide +kernel
theorem d_C_store_27 : decode prog_1_method_6_code 27 = .ok (.aload_n 0, 1) := by decide +kernel
theorem d_C_store_28 : decode prog_1_method_6_code 28 = .ok (.getfield 31, 3) := by decide +kernel
theorem d_C_store_31 : decode prog_1_method_6_code 31 = .ok (.aload 4, 2) := by decide +kernel
theorem d_C_store_33 : decode prog_1_method_6_code 33 = .ok (.iload_n 2, 1) := by decide +kernel
theorem d_C_store_34 : decode prog_1_method_6_code 34 = .ok (.invokevirtual 88, 3) := by decide +kernel
theorem d_C_store_37 : decode prog_1_method_6_code 37 = .ok (.aload 4, 2) := by decide +kernel
theorem d_C_store_39 : decode prog_1_method_6_code 39 = .ok (.getfield 73, 3) := by decide +kernel
theorem d_C_store_42 : decode prog_1_method_6_code 42 = .ok (.iload_n 2, 1) := by decide +kernel
theorem d_C_store_43 : decode prog_1_method_6_code 43 = .ok (.aload_n 0, 1) := by decide +kernel
theorem d_C_store_44 : decode prog_1_method_6_code 44 = .ok (.getfield 11, 3) := by decide +kernel
theorem d_C_store_47 : decode prog_1_method_6_code 47 = .ok (.iload_n 3, 1) := by decide +kernel
theorem d_C_store_48 : decode prog_1_method_6_code 48 = .ok (.aaload, 1) := by decide +kernel
theorem d_C_store_49 : decode prog_1_method_6_code 49 = .ok (.aastore, 1) := by decide +kernel
theorem d_C_store_50 : decode prog_1_method_6_code 50 = .ok (.return_, 1) := by decide +kernel
theorem d_C_drain_0 : decode prog_1_method_7_code 0 = .ok (.iload_n 1, 1) := by decide +kernel
theorem d_C_drain_1 : decode prog_1_method_7_code 1 = .ok (.ifCond .ge 11, 3) := by decide +kernel
theorem d_C_drain_4 : decode prog_1_method_7_code 4 = .ok (.new 49, 3) := by decide +kernel
theorem d_C_drain_7 : decode prog_1_method_7_code 7 = .ok (.dup, 1) := by decide +kernel
theorem d_C_drain_8 : decode prog_1_method_7_code 8 = .ok (.invokespecial 51, 3) := by decide +kernel
theorem d_C_drain_11 : decode prog_1_method_7_code 11 = .ok (.athrow, 1) := by decide +kernel
theorem d_C_drain_12 : decode prog_1_method_7_code 12 = .ok (.aload_n 0, 1) := by decide +kernel
theorem d_C_drain_13 : decode prog_1_method_7_code 13 = .ok (.iload_n 1, 1) := by decide +kernel
theorem d_C_drain_14 : decode prog_1_method_7_code 14 = .ok (.invokevirtual 91, 3) := by decide +kernel
theorem d_C_drain_17 : decode prog_1_method_7_code 17 = .ok (.aload_n 0, 1) := by decide +kernel
theorem d_C_drain_18 : decode prog_1_method_7_code 18 = .ok (.getfield 38, 3) := by decide +kernel
theorem d_C_drain_21 : decode prog_1_method_7_code 21 = .ok (.getfield 95, 3) := by decide +kernel
theorem d_C_drain_24 : decode prog_1_method_7_code 24 = .ok (.ireturn, 1) := by decide +kernel
theorem d_C_trace_0 : decode prog_1_method_8_code 0 = .ok (.iload_n 1, 1) := by decide +kernel
theorem d_C_trace_1 : decode prog_1_method_8_code 1 = .ok (.ifCond .ge 11, 3) := by decide +kernel
theorem d_C_trace_4 : decode prog_1_method_8_code 4 = .ok (.new 49, 3) := by decide +kernel
theorem d_C_trace_7 : decode prog_1_method_8_code 7 = .ok (.dup, 1) := by decide +kernel
theorem d_C_trace_8 : decode prog_1_method_8_code 8 = .ok (.invokespecial 51, 3) := by decide +kernel
theorem d_C_trace_11 : decode prog_1_method_8_code 11 = .ok (.athrow, 1) := by decide +kernel
theorem d_C_trace_12 : decode prog_1_method_8_code 12 = .ok (.aload_n 0, 1) := by decide +kernel
theorem d_C_trace_13 : decode prog_1_method_8_code 13 = .ok (.getfield 99, 3) := by decide +kernel
theorem d_C_trace_16 : decode prog_1_method_8_code 16 = .ok (.ifCond .ne 11, 3) := by decide +kernel
theorem d_C_trace_19 : decode prog_1_method_8_code 19 = .ok (.new 103, 3) := by decide +kernel
theorem d_C_trace_22 : decode prog_1_method_8_code 22 = .ok (.dup, 1) := by decide +kernel
theorem d_C_trace_23 : decode prog_1_method_8_code 23 = .ok (.invokespecial 105, 3) := by decide +kernel
theorem d_C_trace_26 : decode prog_1_method_8_code 26 = .ok (.athrow, 1) := by decide +kernel
theorem d_C_trace_27 : decode prog_1_method_8_code 27 = .ok (.aload_n 0, 1) := by decide +kernel
theorem d_C_trace_28 : decode prog_1_method_8_code 28 = .ok (.iload_n 1, 1) := by decide +kernel
theorem d_C_trace_29 : decode prog_1_method_8_code 29 = .ok (.invokevirtual 106, 3) := by decide +kernel
theorem d_C_trace_32 : decode prog_1_method_8_code 32 = .ok (.aload_n 0, 1) := by decide +kernel
theorem d_C_trace_33 : decode prog_1_method_8_code 33 = .ok (.invokevirtual 109, 3) := by decide +kernel
theorem d_C_trace_36 : decode prog_1_method_8_code 36 = .ok (.ireturn, 1) := by decide +kernel
theorem d_C_root_0 : decode prog_1_method_10_code 0 = .ok (.iload_n 1, 1) := by decide +kernel
theorem d_C_root_1 : decode prog_1_method_10_code 1 = .ok (.invokestatic 45, 3) := by decide +kernel
theorem d_C_root_4 : decode prog_1_method_10_code 4 = .ok (.ifCond .ne 11, 3) := by decide +kernel
theorem d_C_root_7 : decode prog_1_method_10_code 7 = .ok (.new 49, 3) := by decide +kernel
theorem d_C_root_10 : decode prog_1_method_10_code 10 = .ok (.dup, 1) := by decide +kernel
theorem d_C_root_11 : decode prog_1_method_10_code 11 = .ok (.invokespecial 51, 3) := by decide +kernel
theorem d_C_root_14 : decode prog_1_method_10_code 14 = .ok (.athrow, 1) := by decide +kernel
theorem d_C_root_15 : decode prog_1_method_10_code 15 = .ok (.aload_n 0, 1) := by decide +kernel
theorem d_C_root_16 : decode prog_1_method_10_code 16 = .ok (.getfield 11, 3) := by decide +kernel
theorem d_C_root_19 : decode prog_1_method_10_code 19 = .ok (.iload_n 1, 1) := by decide +kernel
theorem d_C_root_20 : decode prog_1_method_10_code 20 = .ok (.aaload, 1) := by decide +kernel
theorem d_C_root_21 : decode prog_1_method_10_code 21 = .ok (.invokestatic 76, 3) := by decide +kernel
theorem d_C_root_24 : decode prog_1_method_10_code 24 = .ok (.ireturn, 1) := by decide +kernel
theorem d_C_itemOrNull_0 : decode prog_1_method_18_code 0 = .ok (.iload_n 1, 1) := by decide +kernel
theorem d_C_itemOrNull_1 : decode prog_1_method_18_code 1 = .ok (.ifCond .lt 19, 3) := by decide +kernel
theorem d_C_itemOrNull_4 : decode prog_1_method_18_code 4 = .ok (.iload_n 1, 1) := by decide +kernel
theorem d_C_itemOrNull_5 : decode prog_1_method_18_code 5 = .ok (.sipush 128, 3) := by decide +kernel
theorem d_C_itemOrNull_8 : decode prog_1_method_18_code 8 = .ok (.if_icmp .ge 12, 3) := by decide +kernel
theorem d_C_itemOrNull_11 : decode prog_1_method_18_code 11 = .ok (.aload_n 0, 1) := by decide +kernel
theorem d_C_itemOrNull_12 : decode prog_1_method_18_code 12 = .ok (.getfield 18, 3) := by decide +kernel
theorem d_C_itemOrNull_15 : decode prog_1_method_18_code 15 = .ok (.iload_n 1, 1) := by decide +kernel
theorem d_C_itemOrNull_16 : decode prog_1_method_18_code 16 = .ok (.aaload, 1) := by decide +kernel
theorem d_C_itemOrNull_17 : decode prog_1_method_18_code 17 = .ok (.goto 4, 3) := by decide +kernel
theorem d_C_itemOrNull_20 : decode prog_1_method_18_code 20 = .ok (.aconst_null, 1) := by decide +kernel
theorem d_C_itemOrNull_21 : decode prog_1_method_18_code 21 = .ok (.areturn, 1) := by decide +kernel
theorem d_C_field_0 : decode prog_1_method_11_code 0 = .ok (.aload_n 0, 1) := by decide +kernel
theorem d_C_field_1 : decode prog_1_method_11_code 1 = .ok (.iload_n 1, 1) := by decide +kernel
theorem d_C_field_2 : decode prog_1_method_11_code 2 = .ok (.invokevirtual 147, 3) := by decide +kernel
theorem d_C_field_5 : decode prog_1_method_11_code 5 = .ok (.astore_n 3, 1) := by decide +kernel
theorem d_C_field_6 : decode prog_1_method_11_code 6 = .ok (.aload_n 3, 1) := by decide +kernel
theorem d_C_field_7 : decode prog_1_method_11_code 7 = .ok (.ifnonnull 11, 3) := by decide +kernel
theorem d_C_field_10 : decode prog_1_method_11_code 10 = .ok (.new 151, 3) := by decide +kernel
theorem d_C_field_13 : decode prog_1_method_11_code 13 = .ok (.dup, 1) := by decide +kernel
theorem d_C_field_14 : decode prog_1_method_11_code 14 = .ok (.invokespecial 153, 3) := by decide +kernel
theorem d_C_field_17 : decode prog_1_method_11_code 17 = .ok (.athrow, 1) := by decide +kernel
theorem d_C_field_18 : decode prog_1_method_11_code 18 = .ok (.aload_n 3, 1) := by decide +kernel
theorem d_C_field_19 : decode prog_1_method_11_code 19 = .ok (.iload_n 2, 1) := by decide +kernel
theorem d_C_field_20 : decode prog_1_method_11_code 20 = .ok (.invokevirtual 154, 3) := by decide +kernel
theorem d_C_field_23 : decode prog_1_method_11_code 23 = .ok (.ifCond .ne 11, 3) := by decide +kernel
theorem d_C_field_26 : decode prog_1_method_11_code 26 = .ok (.new 157, 3) := by decide +kernel
theorem d_C_field_29 : decode prog_1_method_11_code 29 = .ok (.dup, 1) := by decide +kernel
theorem d_C_field_30 : decode prog_1_method_11_code 30 = .ok (.invokespecial 159, 3) := by decide +kernel
theorem d_C_field_33 : decode prog_1_method_11_code 33 = .ok (.athrow, 1) := by decide +kernel
theorem d_C_field_34 : decode prog_1_method_11_code 34 = .ok (.aload_n 3, 1) := by decide +kernel
theorem d_C_field_35 : decode prog_1_method_11_code 35 = .ok (.getfield 73, 3) := by decide +kernel
theorem d_C_field_38 : decode prog_1_method_11_code 38 = .ok (.iload_n 2, 1) := by decide +kernel
theorem d_C_field_39 : decode prog_1_method_11_code 39 = .ok (.aaload, 1) := by decide +kernel
theorem d_C_field_40 : decode prog_1_method_11_code 40 = .ok (.invokestatic 76, 3) := by decide +kernel
theorem d_C_field_43 : decode prog_1_method_11_code 43 = .ok (.ireturn, 1) := by decide +kernel
theorem d_C_object_0 : decode prog_1_method_12_code 0 = .ok (.iload_n 2, 1) := by decide +kernel
theorem d_C_object_1 : decode prog_1_method_12_code 1 = .ok (.ifCond .lt 8, 3) := by decide +kernel
theorem d_C_object_4 : decode prog_1_method_12_code 4 = .ok (.iload_n 2, 1) := by decide +kernel
theorem d_C_object_5 : decode prog_1_method_12_code 5 = .ok (.iconst 3, 1) := by decide +kernel
theorem d_C_object_6 : decode prog_1_method_12_code 6 = .ok (.if_icmp .le 11, 3) := by decide +kernel
theorem d_C_object_9 : decode prog_1_method_12_code 9 = .ok (.new 49, 3) := by decide +kernel
theorem d_C_object_12 : decode prog_1_method_12_code 12 = .ok (.dup, 1) := by decide +kernel
theorem d_C_object_13 : decode prog_1_method_12_code 13 = .ok (.invokespecial 51, 3) := by decide +kernel
theorem d_C_object_16 : decode prog_1_method_12_code 16 = .ok (.athrow, 1) := by decide +kernel
theorem d_C_object_17 : decode prog_1_method_12_code 17 = .ok (.aload_n 0, 1) := by decide +kernel
theorem d_C_object_18 : decode prog_1_method_12_code 18 = .ok (.iload_n 1, 1) := by decide +kernel
theorem d_C_object_19 : decode prog_1_method_12_code 19 = .ok (.invokevirtual 147, 3) := by decide +kernel
theorem d_C_object_22 : decode prog_1_method_12_code 22 = .ok (.astore_n 3, 1) := by decide +kernel
theorem d_C_object_23 : decode prog_1_method_12_code 23 = .ok (.aload_n 3, 1) := by decide +kernel
theorem d_C_object_24 : decode prog_1_method_12_code 24 = .ok (.ifnonnull 11, 3) := by decide +kernel
theorem d_C_object_27 : decode prog_1_method_12_code 27 = .ok (.new 151, 3) := by decide +kernel
theorem d_C_object_30 : decode prog_1_method_12_code 30 = .ok (.dup, 1) := by decide +kernel
theorem d_C_object_31 : decode prog_1_method_12_code 31 = .ok (.invokespecial 153, 3) := by decide +kernel
theorem d_C_object_34 : decode prog_1_method_12_code 34 = .ok (.athrow, 1) := by decide +kernel
theorem d_C_object_35 : decode prog_1_method_12_code 35 = .ok (.iload_n 2, 1) := by decide +kernel
theorem d_C_object_36 : decode prog_1_method_12_code 36 = .ok (.tableswitch 43 0 2 #[28, 33, 38], 28) := by decide +kernel
theorem d_C_object_64 : decode prog_1_method_12_code 64 = .ok (.aload_n 3, 1) := by decide +kernel
theorem d_C_object_65 : decode prog_1_method_12_code 65 = .ok (.getfield 160, 3) := by decide +kernel
theorem d_C_object_68 : decode prog_1_method_12_code 68 = .ok (.ireturn, 1) := by decide +kernel
theorem d_C_object_69 : decode prog_1_method_12_code 69 = .ok (.aload_n 3, 1) := by decide +kernel
theorem d_C_object_70 : decode prog_1_method_12_code 70 = .ok (.getfield 163, 3) := by decide +kernel
theorem d_C_object_73 : decode prog_1_method_12_code 73 = .ok (.ireturn, 1) := by decide +kernel
theorem d_C_object_74 : decode prog_1_method_12_code 74 = .ok (.aload_n 3, 1) := by decide +kernel
theorem d_C_object_75 : decode prog_1_method_12_code 75 = .ok (.getfield 166, 3) := by decide +kernel
theorem d_C_object_78 : decode prog_1_method_12_code 78 = .ok (.ireturn, 1) := by decide +kernel
theorem d_C_object_79 : decode prog_1_method_12_code 79 = .ok (.aload_n 3, 1) := by decide +kernel
theorem d_C_object_80 : decode prog_1_method_12_code 80 = .ok (.getfield 169, 3) := by decide +kernel
theorem d_C_object_83 : decode prog_1_method_12_code 83 = .ok (.ireturn, 1) := by decide +kernel
theorem d_C_line_0 : decode prog_1_method_13_code 0 = .ok (.iload_n 1, 1) := by decide +kernel
theorem d_C_line_1 : decode prog_1_method_13_code 1 = .ok (.ifCond .lt 9, 3) := by decide +kernel
theorem d_C_line_4 : decode prog_1_method_13_code 4 = .ok (.iload_n 1, 1) := by decide +kernel
theorem d_C_line_5 : decode prog_1_method_13_code 5 = .ok (.bipush 32, 2) := by decide +kernel
theorem d_C_line_7 : decode prog_1_method_13_code 7 = .ok (.if_icmp .lt 11, 3) := by decide +kernel
theorem d_C_line_10 : decode prog_1_method_13_code 10 = .ok (.new 157, 3) := by decide +kernel
theorem d_C_line_13 : decode prog_1_method_13_code 13 = .ok (.dup, 1) := by decide +kernel
theorem d_C_line_14 : decode prog_1_method_13_code 14 = .ok (.invokespecial 159, 3) := by decide +kernel
theorem d_C_line_17 : decode prog_1_method_13_code 17 = .ok (.athrow, 1) := by decide +kernel
theorem d_C_line_18 : decode prog_1_method_13_code 18 = .ok (.aload_n 0, 1) := by decide +kernel
theorem d_C_line_19 : decode prog_1_method_13_code 19 = .ok (.getfield 24, 3) := by decide +kernel
theorem d_C_line_22 : decode prog_1_method_13_code 22 = .ok (.iload_n 1, 1) := by decide +kernel
theorem d_C_line_23 : decode prog_1_method_13_code 23 = .ok (.invokevirtual 172, 3) := by decide +kernel
theorem d_C_line_26 : decode prog_1_method_13_code 26 = .ok (.ifCond .eq 5, 3) := by decide +kernel
theorem d_C_line_29 : decode prog_1_method_13_code 29 = .ok (.iconst 1, 1) := by decide +kernel
theorem d_C_line_30 : decode prog_1_method_13_code 30 = .ok (.ireturn, 1) := by decide +kernel
theorem d_C_line_31 : decode prog_1_method_13_code 31 = .ok (.aload_n 0, 1) := by decide +kernel
theorem d_C_line_32 : decode prog_1_method_13_code 32 = .ok (.getfield 24, 3) := by decide +kernel
theorem d_C_line_35 : decode prog_1_method_13_code 35 = .ok (.iload_n 1, 1) := by decide +kernel
theorem d_C_line_36 : decode prog_1_method_13_code 36 = .ok (.invokevirtual 175, 3) := by decide +kernel
theorem d_C_line_39 : decode prog_1_method_13_code 39 = .ok (.ifCond .eq 7, 3) := by decide +kernel
theorem d_C_line_42 : decode prog_1_method_13_code 42 = .ok (.iconst 0, 1) := by decide +kernel
theorem d_C_line_43 : decode prog_1_method_13_code 43 = .ok (.goto 4, 3) := by decide +kernel
theorem d_C_line_46 : decode prog_1_method_13_code 46 = .ok (.iconst 2, 1) := by decide +kernel
theorem d_C_line_47 : decode prog_1_method_13_code 47 = .ok (.ireturn, 1) := by decide +kernel
theorem d_C_countItems_0 : decode prog_1_method_19_code 0 = .ok (.iconst 0, 1) := by decide +kernel
theorem d_C_countItems_1 : decode prog_1_method_19_code 1 = .ok (.istore_n 1, 1) := by decide +kernel
theorem d_C_countItems_2 : decode prog_1_method_19_code 2 = .ok (.aload_n 0, 1) := by decide +kernel
theorem d_C_countItems_3 : decode prog_1_method_19_code 3 = .ok (.getfield 18, 3) := by decide +kernel
theorem d_C_countItems_6 : decode prog_1_method_19_code 6 = .ok (.astore_n 2, 1) := by decide +kernel
theorem d_C_countItems_7 : decode prog_1_method_19_code 7 = .ok (.aload_n 2, 1) := by decide +kernel
theorem d_C_countItems_8 : decode prog_1_method_19_code 8 = .ok (.arraylength, 1) := by decide +kernel
theorem d_C_countItems_9 : decode prog_1_method_19_code 9 = .ok (.istore_n 3, 1) := by decide +kernel
theorem d_C_countItems_10 : decode prog_1_method_19_code 10 = .ok (.iconst 0, 1) := by decide +kernel
theorem d_C_countItems_11 : decode prog_1_method_19_code 11 = .ok (.istore 4, 2) := by decide +kernel
theorem d_C_countItems_13 : decode prog_1_method_19_code 13 = .ok (.iload 4, 2) := by decide +kernel
theorem d_C_countItems_15 : decode prog_1_method_19_code 15 = .ok (.iload_n 3, 1) := by decide +kernel
theorem d_C_countItems_16 : decode prog_1_method_19_code 16 = .ok (.if_icmp .ge 23, 3) := by decide +kernel
theorem d_C_countItems_19 : decode prog_1_method_19_code 19 = .ok (.aload_n 2, 1) := by decide +kernel
theorem d_C_countItems_20 : decode prog_1_method_19_code 20 = .ok (.iload 4, 2) := by decide +kernel
theorem d_C_countItems_22 : decode prog_1_method_19_code 22 = .ok (.aaload, 1) := by decide +kernel
theorem d_C_countItems_23 : decode prog_1_method_19_code 23 = .ok (.astore 5, 2) := by decide +kernel
theorem d_C_countItems_25 : decode prog_1_method_19_code 25 = .ok (.aload 5, 2) := by decide +kernel
theorem d_C_countItems_27 : decode prog_1_method_19_code 27 = .ok (.ifnull 6, 3) := by decide +kernel
theorem d_C_countItems_30 : decode prog_1_method_19_code 30 = .ok (.iinc 1 1, 3) := by decide +kernel
theorem d_C_countItems_33 : decode prog_1_method_19_code 33 = .ok (.iinc 4 1, 3) := by decide +kernel
theorem d_C_countItems_36 : decode prog_1_method_19_code 36 = .ok (.goto (-23), 3) := by decide +kernel
theorem d_C_countItems_39 : decode prog_1_method_19_code 39 = .ok (.iload_n 1, 1) := by decide +kernel
theorem d_C_countItems_40 : decode prog_1_method_19_code 40 = .ok (.ireturn, 1) := by decide +kernel
theorem d_C_countYoung_0 : decode prog_1_method_20_code 0 = .ok (.iconst 0, 1) := by decide +kernel
theorem d_C_countYoung_1 : decode prog_1_method_20_code 1 = .ok (.istore_n 1, 1) := by decide +kernel
theorem d_C_countYoung_2 : decode prog_1_method_20_code 2 = .ok (.aload_n 0, 1) := by decide +kernel
theorem d_C_countYoung_3 : decode prog_1_method_20_code 3 = .ok (.getfield 18, 3) := by decide +kernel
theorem d_C_countYoung_6 : decode prog_1_method_20_code 6 = .ok (.astore_n 2, 1) := by decide +kernel
theorem d_C_countYoung_7 : decode prog_1_method_20_code 7 = .ok (.aload_n 2, 1) := by decide +kernel
theorem d_C_countYoung_8 : decode prog_1_method_20_code 8 = .ok (.arraylength, 1) := by decide +kernel
theorem d_C_countYoung_9 : decode prog_1_method_20_code 9 = .ok (.istore_n 3, 1) := by decide +kernel
theorem d_C_countYoung_10 : decode prog_1_method_20_code 10 = .ok (.iconst 0, 1) := by decide +kernel
theorem d_C_countYoung_11 : decode prog_1_method_20_code 11 = .ok (.istore 4, 2) := by decide +kernel
theorem d_C_countYoung_13 : decode prog_1_method_20_code 13 = .ok (.iload 4, 2) := by decide +kernel
theorem d_C_countYoung_15 : decode prog_1_method_20_code 15 = .ok (.iload_n 3, 1) := by decide +kernel
theorem d_C_countYoung_16 : decode prog_1_method_20_code 16 = .ok (.if_icmp .ge 31, 3) := by decide +kernel
theorem d_C_countYoung_19 : decode prog_1_method_20_code 19 = .ok (.aload_n 2, 1) := by decide +kernel
theorem d_C_countYoung_20 : decode prog_1_method_20_code 20 = .ok (.iload 4, 2) := by decide +kernel
theorem d_C_countYoung_22 : decode prog_1_method_20_code 22 = .ok (.aaload, 1) := by decide +kernel
theorem d_C_countYoung_23 : decode prog_1_method_20_code 23 = .ok (.astore 5, 2) := by decide +kernel
theorem d_C_countYoung_25 : decode prog_1_method_20_code 25 = .ok (.aload 5, 2) := by decide +kernel
theorem d_C_countYoung_27 : decode prog_1_method_20_code 27 = .ok (.ifnull 14, 3) := by decide +kernel
theorem d_C_countYoung_30 : decode prog_1_method_20_code 30 = .ok (.aload 5, 2) := by decide +kernel
theorem d_C_countYoung_32 : decode prog_1_method_20_code 32 = .ok (.invokevirtual 80, 3) := by decide +kernel
theorem d_C_countYoung_35 : decode prog_1_method_20_code 35 = .ok (.ifCond .ne 6, 3) := by decide +kernel
theorem d_C_countYoung_38 : decode prog_1_method_20_code 38 = .ok (.iinc 1 1, 3) := by decide +kernel
theorem d_C_countYoung_41 : decode prog_1_method_20_code 41 = .ok (.iinc 4 1, 3) := by decide +kernel
theorem d_C_countYoung_44 : decode prog_1_method_20_code 44 = .ok (.goto (-31), 3) := by decide +kernel
theorem d_C_countYoung_47 : decode prog_1_method_20_code 47 = .ok (.iload_n 1, 1) := by decide +kernel
theorem d_C_countYoung_48 : decode prog_1_method_20_code 48 = .ok (.ireturn, 1) := by decide +kernel
theorem d_C_figure_0 : decode prog_1_method_14_code 0 = .ok (.iload_n 1, 1) := by decide +kernel
theorem d_C_figure_1 : decode prog_1_method_14_code 1 = .ok (.tableswitch 110 0 8 #[51, 56, 61, 69, 77, 82, 95, 100, 105], 51) := by decide +kernel
theorem d_C_figure_52 : decode prog_1_method_14_code 52 = .ok (.aload_n 0, 1) := by decide +kernel
theorem d_C_figure_53 : decode prog_1_method_14_code 53 = .ok (.invokevirtual 178, 3) := by decide +kernel
theorem d_C_figure_56 : decode prog_1_method_14_code 56 = .ok (.ireturn, 1) := by decide +kernel
theorem d_C_figure_57 : decode prog_1_method_14_code 57 = .ok (.aload_n 0, 1) := by decide +kernel
theorem d_C_figure_58 : decode prog_1_method_14_code 58 = .ok (.invokevirtual 181, 3) := by decide +kernel
theorem d_C_figure_61 : decode prog_1_method_14_code 61 = .ok (.ireturn, 1) := by decide +kernel
theorem d_C_figure_62 : decode prog_1_method_14_code 62 = .ok (.aload_n 0, 1) := by decide +kernel
theorem d_C_figure_63 : decode prog_1_method_14_code 63 = .ok (.getfield 38, 3) := by decide +kernel
theorem d_C_figure_66 : decode prog_1_method_14_code 66 = .ok (.getfield 95, 3) := by decide +kernel
theorem d_C_figure_69 : decode prog_1_method_14_code 69 = .ok (.ireturn, 1) := by decide +kernel
theorem d_C_figure_70 : decode prog_1_method_14_code 70 = .ok (.aload_n 0, 1) := by decide +kernel
theorem d_C_figure_71 : decode prog_1_method_14_code 71 = .ok (.getfield 31, 3) := by decide +kernel
theorem d_C_figure_74 : decode prog_1_method_14_code 74 = .ok (.getfield 184, 3) := by decide +kernel
theorem d_C_figure_77 : decode prog_1_method_14_code 77 = .ok (.ireturn, 1) := by decide +kernel
theorem d_C_figure_78 : decode prog_1_method_14_code 78 = .ok (.aload_n 0, 1) := by decide +kernel
theorem d_C_figure_79 : decode prog_1_method_14_code 79 = .ok (.getfield 113, 3) := by decide +kernel
theorem d_C_figure_82 : decode prog_1_method_14_code 82 = .ok (.ireturn, 1) := by decide +kernel
theorem d_C_figure_83 : decode prog_1_method_14_code 83 = .ok (.aload_n 0, 1) := by decide +kernel
theorem d_C_figure_84 : decode prog_1_method_14_code 84 = .ok (.getfield 99, 3) := by decide +kernel
theorem d_C_figure_87 : decode prog_1_method_14_code 87 = .ok (.ifCond .eq 7, 3) := by decide +kernel
theorem d_C_figure_90 : decode prog_1_method_14_code 90 = .ok (.iconst 1, 1) := by decide +kernel
theorem d_C_figure_91 : decode prog_1_method_14_code 91 = .ok (.goto 4, 3) := by decide +kernel
theorem d_C_figure_94 : decode prog_1_method_14_code 94 = .ok (.iconst 0, 1) := by decide +kernel
theorem d_C_figure_95 : decode prog_1_method_14_code 95 = .ok (.ireturn, 1) := by decide +kernel
theorem d_C_figure_96 : decode prog_1_method_14_code 96 = .ok (.aload_n 0, 1) := by decide +kernel
theorem d_C_figure_97 : decode prog_1_method_14_code 97 = .ok (.getfield 185, 3) := by decide +kernel
theorem d_C_figure_100 : decode prog_1_method_14_code 100 = .ok (.ireturn, 1) := by decide +kernel
theorem d_C_figure_101 : decode prog_1_method_14_code 101 = .ok (.aload_n 0, 1) := by decide +kernel
theorem d_C_figure_102 : decode prog_1_method_14_code 102 = .ok (.getfield 188, 3) := by decide +kernel
theorem d_C_figure_105 : decode prog_1_method_14_code 105 = .ok (.ireturn, 1) := by decide +kernel
theorem d_C_figure_106 : decode prog_1_method_14_code 106 = .ok (.aload_n 0, 1) := by decide +kernel
theorem d_C_figure_107 : decode prog_1_method_14_code 107 = .ok (.invokevirtual 109, 3) := by decide +kernel
theorem d_C_figure_110 : decode prog_1_method_14_code 110 = .ok (.ireturn, 1) := by decide +kernel
theorem d_C_figure_111 : decode prog_1_method_14_code 111 = .ok (.new 49, 3) := by decide +kernel
theorem d_C_figure_114 : decode prog_1_method_14_code 114 = .ok (.dup, 1) := by decide +kernel
theorem d_C_figure_115 : decode prog_1_method_14_code 115 = .ok (.invokespecial 51, 3) := by decide +kernel
theorem d_C_figure_118 : decode prog_1_method_14_code 118 = .ok (.athrow, 1) := by decide +kernel
theorem d_M_init_0 : decode prog_8_method_1_code 0 = .ok (.aload_n 0, 1) := by decide +kernel
theorem d_M_init_1 : decode prog_8_method_1_code 1 = .ok (.invokespecial 1, 3) := by decide +kernel
theorem d_M_init_4 : decode prog_8_method_1_code 4 = .ok (.aload_n 0, 1) := by decide +kernel
theorem d_M_init_5 : decode prog_8_method_1_code 5 = .ok (.sipush 128, 3) := by decide +kernel
theorem d_M_init_8 : decode prog_8_method_1_code 8 = .ok (.newarray .int, 2) := by decide +kernel
theorem d_M_init_10 : decode prog_8_method_1_code 10 = .ok (.putfield 7, 3) := by decide +kernel
theorem d_M_init_13 : decode prog_8_method_1_code 13 = .ok (.aload_n 0, 1) := by decide +kernel
theorem d_M_init_14 : decode prog_8_method_1_code 14 = .ok (.sipush 256, 3) := by decide +kernel
theorem d_M_init_17 : decode prog_8_method_1_code 17 = .ok (.newarray .int, 2) := by decide +kernel
theorem d_M_init_19 : decode prog_8_method_1_code 19 = .ok (.putfield 13, 3) := by decide +kernel
theorem d_M_init_22 : decode prog_8_method_1_code 22 = .ok (.aload_n 0, 1) := by decide +kernel
theorem d_M_init_23 : decode prog_8_method_1_code 23 = .ok (.sipush 256, 3) := by decide +kernel
theorem d_M_init_26 : decode prog_8_method_1_code 26 = .ok (.newarray .int, 2) := by decide +kernel
theorem d_M_init_28 : decode prog_8_method_1_code 28 = .ok (.putfield 16, 3) := by decide +kernel
theorem d_M_init_31 : decode prog_8_method_1_code 31 = .ok (.aload_n 0, 1) := by decide +kernel
theorem d_M_init_32 : decode prog_8_method_1_code 32 = .ok (.sipush 256, 3) := by decide +kernel
theorem d_M_init_35 : decode prog_8_method_1_code 35 = .ok (.newarray .int, 2) := by decide +kernel
theorem d_M_init_37 : decode prog_8_method_1_code 37 = .ok (.putfield 19, 3) := by decide +kernel
theorem d_M_init_40 : decode prog_8_method_1_code 40 = .ok (.aload_n 0, 1) := by decide +kernel
theorem d_M_init_41 : decode prog_8_method_1_code 41 = .ok (.sipush 256, 3) := by decide +kernel
theorem d_M_init_44 : decode prog_8_method_1_code 44 = .ok (.newarray .int, 2) := by decide +kernel
theorem d_M_init_46 : decode prog_8_method_1_code 46 = .ok (.putfield 22, 3) := by decide +kernel
theorem d_M_init_49 : decode prog_8_method_1_code 49 = .ok (.aload_n 0, 1) := by decide +kernel
theorem d_M_init_50 : decode prog_8_method_1_code 50 = .ok (.sipush 256, 3) := by decide +kernel
theorem d_M_init_53 : decode prog_8_method_1_code 53 = .ok (.newarray .int, 2) := by decide +kernel
theorem d_M_init_55 : decode prog_8_method_1_code 55 = .ok (.putfield 25, 3) := by decide +kernel
theorem d_M_init_58 : decode prog_8_method_1_code 58 = .ok (.aload_n 0, 1) := by decide +kernel
theorem d_M_init_59 : decode prog_8_method_1_code 59 = .ok (.sipush 256, 3) := by decide +kernel
theorem d_M_init_62 : decode prog_8_method_1_code 62 = .ok (.newarray .int, 2) := by decide +kernel
theorem d_M_init_64 : decode prog_8_method_1_code 64 = .ok (.putfield 28, 3) := by decide +kernel
theorem d_M_init_67 : decode prog_8_method_1_code 67 = .ok (.aload_n 0, 1) := by decide +kernel
theorem d_M_init_68 : decode prog_8_method_1_code 68 = .ok (.sipush 3072, 3) := by decide +kernel
theorem d_M_init_71 : decode prog_8_method_1_code 71 = .ok (.newarray .int, 2) := by decide +kernel
theorem d_M_init_73 : decode prog_8_method_1_code 73 = .ok (.putfield 31, 3) := by decide +kernel
theorem d_M_init_76 : decode prog_8_method_1_code 76 = .ok (.aload_n 0, 1) := by decide +kernel
theorem d_M_init_77 : decode prog_8_method_1_code 77 = .ok (.sipush 3072, 3) := by decide +kernel
theorem d_M_init_80 : decode prog_8_method_1_code 80 = .ok (.newarray .boolean, 2) := by decide +kernel
theorem d_M_init_82 : decode prog_8_method_1_code 82 = .ok (.putfield 34, 3) := by decide +kernel
theorem d_M_init_85 : decode prog_8_method_1_code 85 = .ok (.aload_n 0, 1) := by decide +kernel
theorem d_M_init_86 : decode prog_8_method_1_code 86 = .ok (.bipush 6, 2) := by decide +kernel
theorem d_M_init_88 : decode prog_8_method_1_code 88 = .ok (.newarray .int, 2) := by decide +kernel
theorem d_M_init_90 : decode prog_8_method_1_code 90 = .ok (.putfield 38, 3) := by decide +kernel
theorem d_M_init_93 : decode prog_8_method_1_code 93 = .ok (.aload_n 0, 1) := by decide +kernel
theorem d_M_init_94 : decode prog_8_method_1_code 94 = .ok (.bipush 6, 2) := by decide +kernel
theorem d_M_init_96 : decode prog_8_method_1_code 96 = .ok (.newarray .int, 2) := by decide +kernel
theorem d_M_init_98 : decode prog_8_method_1_code 98 = .ok (.putfield 41, 3) := by decide +kernel
theorem d_M_init_101 : decode prog_8_method_1_code 101 = .ok (.aload_n 0, 1) := by decide +kernel
theorem d_M_init_102 : decode prog_8_method_1_code 102 = .ok (.iconst (-1), 1) := by decide +kernel
theorem d_M_init_103 : decode prog_8_method_1_code 103 = .ok (.putfield 44, 3) := by decide +kernel
theorem d_M_init_106 : decode prog_8_method_1_code 106 = .ok (.aload_n 0, 1) := by decide +kernel
theorem d_M_init_107 : decode prog_8_method_1_code 107 = .ok (.iconst (-1), 1) := by decide +kernel
theorem d_M_init_108 : decode prog_8_method_1_code 108 = .ok (.putfield 48, 3) := by decide +kernel
theorem d_M_init_111 : decode prog_8_method_1_code 111 = .ok (.aload_n 0, 1) := by decide +kernel
theorem d_M_init_112 : decode prog_8_method_1_code 112 = .ok (.bipush 32, 2) := by decide +kernel
theorem d_M_init_114 : decode prog_8_method_1_code 114 = .ok (.newarray .boolean, 2) := by decide +kernel
theorem d_M_init_116 : decode prog_8_method_1_code 116 = .ok (.putfield 51, 3) := by decide +kernel
theorem d_M_init_119 : decode prog_8_method_1_code 119 = .ok (.aload_n 0, 1) := by decide +kernel
theorem d_M_init_120 : decode prog_8_method_1_code 120 = .ok (.iconst (-1), 1) := by decide +kernel
theorem d_M_init_121 : decode prog_8_method_1_code 121 = .ok (.putfield 54, 3) := by decide +kernel
theorem d_M_init_124 : decode prog_8_method_1_code 124 = .ok (.aload_n 0, 1) := by decide +kernel
theorem d_M_init_125 : decode prog_8_method_1_code 125 = .ok (.sipush 700, 3) := by decide +kernel
theorem d_M_init_128 : decode prog_8_method_1_code 128 = .ok (.newarray .int, 2) := by decide +kernel
theorem d_M_init_130 : decode prog_8_method_1_code 130 = .ok (.putfield 57, 3) := by decide +kernel
theorem d_M_init_133 : decode prog_8_method_1_code 133 = .ok (.aload_n 0, 1) := by decide +kernel
theorem d_M_init_134 : decode prog_8_method_1_code 134 = .ok (.sipush 160, 3) := by decide +kernel
theorem d_M_init_137 : decode prog_8_method_1_code 137 = .ok (.newarray .int, 2) := by decide +kernel
theorem d_M_init_139 : decode prog_8_method_1_code 139 = .ok (.putfield 60, 3) := by decide +kernel
theorem d_M_init_142 : decode prog_8_method_1_code 142 = .ok (.aload_n 0, 1) := by decide +kernel
