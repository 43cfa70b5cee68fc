/-! Instructions (written by a program) -/
theorem d_M_halt_44 : decode prog_8_method_35_code 44 = .ok (.invokevirtual 193, 3) := by decide +kernel
theorem d_M_halt_47 : decode prog_8_method_35_code 47 = .ok (.aload_n 0, 1) := by decide +kernel
theorem d_M_halt_48 : decode prog_8_method_35_code 48 = .ok (.iconst 0, 1) := by decide +kernel
theorem d_M_halt_49 : decode prog_8_method_35_code 49 = .ok (.putfield 143, 3) := by decide +kernel
theorem d_M_halt_52 : decode prog_8_method_35_code 52 = .ok (.iload_n 1, 1) := by decide +kernel
theorem d_M_halt_53 : decode prog_8_method_35_code 53 = .ok (.ifCond .eq 50, 3) := by decide +kernel
theorem d_M_halt_56 : decode prog_8_method_35_code 56 = .ok (.aload_n 0, 1) := by decide +kernel
theorem d_M_halt_57 : decode prog_8_method_35_code 57 = .ok (.getfield 143, 3) := by decide +kernel
theorem d_M_halt_60 : decode prog_8_method_35_code 60 = .ok (.ifCond .ne 43, 3) := by decide +kernel
theorem d_M_halt_63 : decode prog_8_method_35_code 63 = .ok (.aload_n 0, 1) := by decide +kernel
theorem d_M_halt_64 : decode prog_8_method_35_code 64 = .ok (.iconst 1, 1) := by decide +kernel
theorem d_M_halt_65 : decode prog_8_method_35_code 65 = .ok (.putfield 143, 3) := by decide +kernel
theorem d_M_halt_68 : decode prog_8_method_35_code 68 = .ok (.iconst 0, 1) := by decide +kernel
theorem d_M_halt_69 : decode prog_8_method_35_code 69 = .ok (.istore_n 3, 1) := by decide +kernel
theorem d_M_halt_70 : decode prog_8_method_35_code 70 = .ok (.iload_n 3, 1) := by decide +kernel
theorem d_M_halt_71 : decode prog_8_method_35_code 71 = .ok (.bipush 6, 2) := by decide +kernel
theorem d_M_halt_73 : decode prog_8_method_35_code 73 = .ok (.if_icmp .ge 30, 3) := by decide +kernel
theorem d_M_halt_76 : decode prog_8_method_35_code 76 = .ok (.aload_n 0, 1) := by decide +kernel
theorem d_M_halt_77 : decode prog_8_method_35_code 77 = .ok (.getfield 38, 3) := by decide +kernel
theorem d_M_halt_80 : decode prog_8_method_35_code 80 = .ok (.iload_n 3, 1) := by decide +kernel
theorem d_M_halt_81 : decode prog_8_method_35_code 81 = .ok (.iaload, 1) := by decide +kernel
theorem d_M_halt_82 : decode prog_8_method_35_code 82 = .ok (.ifCond .lt 15, 3) := by decide +kernel
theorem d_M_halt_85 : decode prog_8_method_35_code 85 = .ok (.aload_n 0, 1) := by decide +kernel
theorem d_M_halt_86 : decode prog_8_method_35_code 86 = .ok (.getfield 28, 3) := by decide +kernel
theorem d_M_halt_89 : decode prog_8_method_35_code 89 = .ok (.aload_n 0, 1) := by decide +kernel
theorem d_M_halt_90 : decode prog_8_method_35_code 90 = .ok (.getfield 38, 3) := by decide +kernel
theorem d_M_halt_93 : decode prog_8_method_35_code 93 = .ok (.iload_n 3, 1) := by decide +kernel
theorem d_M_halt_94 : decode prog_8_method_35_code 94 = .ok (.iaload, 1) := by decide +kernel
theorem d_M_halt_95 : decode prog_8_method_35_code 95 = .ok (.iconst 1, 1) := by decide +kernel
theorem d_M_halt_96 : decode prog_8_method_35_code 96 = .ok (.iastore, 1) := by decide +kernel
theorem d_M_halt_97 : decode prog_8_method_35_code 97 = .ok (.iinc 3 1, 3) := by decide +kernel
theorem d_M_halt_100 : decode prog_8_method_35_code 100 = .ok (.goto (-30), 3) := by decide +kernel
theorem d_M_halt_103 : decode prog_8_method_35_code 103 = .ok (.aload_n 0, 1) := by decide +kernel
theorem d_M_halt_104 : decode prog_8_method_35_code 104 = .ok (.invokevirtual 168, 3) := by decide +kernel
theorem d_M_halt_107 : decode prog_8_method_35_code 107 = .ok (.aload_n 0, 1) := by decide +kernel
theorem d_M_halt_108 : decode prog_8_method_35_code 108 = .ok (.dup, 1) := by decide +kernel
theorem d_M_halt_109 : decode prog_8_method_35_code 109 = .ok (.getfield 196, 3) := by decide +kernel
theorem d_M_halt_112 : decode prog_8_method_35_code 112 = .ok (.iconst 1, 1) := by decide +kernel
theorem d_M_halt_113 : decode prog_8_method_35_code 113 = .ok (.iadd, 1) := by decide +kernel
theorem d_M_halt_114 : decode prog_8_method_35_code 114 = .ok (.putfield 196, 3) := by decide +kernel
theorem d_M_halt_117 : decode prog_8_method_35_code 117 = .ok (.iconst 0, 1) := by decide +kernel
theorem d_M_halt_118 : decode prog_8_method_35_code 118 = .ok (.istore_n 3, 1) := by decide +kernel
theorem d_M_halt_119 : decode prog_8_method_35_code 119 = .ok (.iload_n 3, 1) := by decide +kernel
theorem d_M_halt_120 : decode prog_8_method_35_code 120 = .ok (.bipush 6, 2) := by decide +kernel
theorem d_M_halt_122 : decode prog_8_method_35_code 122 = .ok (.if_icmp .ge 21, 3) := by decide +kernel
theorem d_M_halt_125 : decode prog_8_method_35_code 125 = .ok (.aload_n 0, 1) := by decide +kernel
theorem d_M_halt_126 : decode prog_8_method_35_code 126 = .ok (.getfield 41, 3) := by decide +kernel
theorem d_M_halt_129 : decode prog_8_method_35_code 129 = .ok (.iload_n 3, 1) := by decide +kernel
theorem d_M_halt_130 : decode prog_8_method_35_code 130 = .ok (.aload_n 0, 1) := by decide +kernel
theorem d_M_halt_131 : decode prog_8_method_35_code 131 = .ok (.getfield 38, 3) := by decide +kernel
theorem d_M_halt_134 : decode prog_8_method_35_code 134 = .ok (.iload_n 3, 1) := by decide +kernel
theorem d_M_halt_135 : decode prog_8_method_35_code 135 = .ok (.iaload, 1) := by decide +kernel
theorem d_M_halt_136 : decode prog_8_method_35_code 136 = .ok (.iastore, 1) := by decide +kernel
theorem d_M_halt_137 : decode prog_8_method_35_code 137 = .ok (.iinc 3 1, 3) := by decide +kernel
theorem d_M_halt_140 : decode prog_8_method_35_code 140 = .ok (.goto (-21), 3) := by decide +kernel
theorem d_M_halt_143 : decode prog_8_method_35_code 143 = .ok (.iload_n 2, 1) := by decide +kernel
theorem d_M_halt_144 : decode prog_8_method_35_code 144 = .ok (.ireturn, 1) := by decide +kernel
theorem d_M_collect_0 : decode prog_8_method_36_code 0 = .ok (.aload_n 0, 1) := by decide +kernel
theorem d_M_collect_1 : decode prog_8_method_36_code 1 = .ok (.iconst 1, 1) := by decide +kernel
theorem d_M_collect_2 : decode prog_8_method_36_code 2 = .ok (.invokevirtual 199, 3) := by decide +kernel
theorem d_M_collect_5 : decode prog_8_method_36_code 5 = .ok (.pop, 1) := by decide +kernel
theorem d_M_collect_6 : decode prog_8_method_36_code 6 = .ok (.aload_n 0, 1) := by decide +kernel
theorem d_M_collect_7 : decode prog_8_method_36_code 7 = .ok (.invokevirtual 184, 3) := by decide +kernel
theorem d_M_collect_10 : decode prog_8_method_36_code 10 = .ok (.ifCond .le 10, 3) := by decide +kernel
theorem d_M_collect_13 : decode prog_8_method_36_code 13 = .ok (.aload_n 0, 1) := by decide +kernel
theorem d_M_collect_14 : decode prog_8_method_36_code 14 = .ok (.invokevirtual 203, 3) := by decide +kernel
theorem d_M_collect_17 : decode prog_8_method_36_code 17 = .ok (.goto (-11), 3) := by decide +kernel
theorem d_M_collect_20 : decode prog_8_method_36_code 20 = .ok (.aload_n 0, 1) := by decide +kernel
theorem d_M_collect_21 : decode prog_8_method_36_code 21 = .ok (.iconst 0, 1) := by decide +kernel
theorem d_M_collect_22 : decode prog_8_method_36_code 22 = .ok (.invokevirtual 199, 3) := by decide +kernel
theorem d_M_collect_25 : decode prog_8_method_36_code 25 = .ok (.pop, 1) := by decide +kernel
theorem d_M_collect_26 : decode prog_8_method_36_code 26 = .ok (.aload_n 0, 1) := by decide +kernel
theorem d_M_collect_27 : decode prog_8_method_36_code 27 = .ok (.invokevirtual 174, 3) := by decide +kernel
theorem d_M_collect_30 : decode prog_8_method_36_code 30 = .ok (.return_, 1) := by decide +kernel
theorem d_M_isRoot_0 : decode prog_8_method_37_code 0 = .ok (.iload_n 0, 1) := by decide +kernel
theorem d_M_isRoot_1 : decode prog_8_method_37_code 1 = .ok (.ifCond .lt 13, 3) := by decide +kernel
theorem d_M_isRoot_4 : decode prog_8_method_37_code 4 = .ok (.iload_n 0, 1) := by decide +kernel
theorem d_M_isRoot_5 : decode prog_8_method_37_code 5 = .ok (.bipush 6, 2) := by decide +kernel
theorem d_M_isRoot_7 : decode prog_8_method_37_code 7 = .ok (.if_icmp .ge 7, 3) := by decide +kernel
theorem d_M_isRoot_10 : decode prog_8_method_37_code 10 = .ok (.iconst 1, 1) := by decide +kernel
theorem d_M_isRoot_11 : decode prog_8_method_37_code 11 = .ok (.goto 4, 3) := by decide +kernel
theorem d_M_isRoot_14 : decode prog_8_method_37_code 14 = .ok (.iconst 0, 1) := by decide +kernel
theorem d_M_isRoot_15 : decode prog_8_method_37_code 15 = .ok (.ireturn, 1) := by decide +kernel
theorem d_M_allocate_0 : decode prog_8_method_38_code 0 = .ok (.aload_n 0, 1) := by decide +kernel
theorem d_M_allocate_1 : decode prog_8_method_38_code 1 = .ok (.iload_n 1, 1) := by decide +kernel
theorem d_M_allocate_2 : decode prog_8_method_38_code 2 = .ok (.invokestatic 206, 3) := by decide +kernel
theorem d_M_allocate_5 : decode prog_8_method_38_code 5 = .ok (.ifCond .eq 18, 3) := by decide +kernel
theorem d_M_allocate_8 : decode prog_8_method_38_code 8 = .ok (.iload_n 2, 1) := by decide +kernel
theorem d_M_allocate_9 : decode prog_8_method_38_code 9 = .ok (.iconst 1, 1) := by decide +kernel
theorem d_M_allocate_10 : decode prog_8_method_38_code 10 = .ok (.if_icmp .lt 13, 3) := by decide +kernel
theorem d_M_allocate_13 : decode prog_8_method_38_code 13 = .ok (.iload_n 2, 1) := by decide +kernel
theorem d_M_allocate_14 : decode prog_8_method_38_code 14 = .ok (.bipush 12, 2) := by decide +kernel
theorem d_M_allocate_16 : decode prog_8_method_38_code 16 = .ok (.if_icmp .gt 7, 3) := by decide +kernel
theorem d_M_allocate_19 : decode prog_8_method_38_code 19 = .ok (.iconst 0, 1) := by decide +kernel
theorem d_M_allocate_20 : decode prog_8_method_38_code 20 = .ok (.goto 4, 3) := by decide +kernel
theorem d_M_allocate_23 : decode prog_8_method_38_code 23 = .ok (.iconst 1, 1) := by decide +kernel
theorem d_M_allocate_24 : decode prog_8_method_38_code 24 = .ok (.putfield 69, 3) := by decide +kernel
theorem d_M_allocate_27 : decode prog_8_method_38_code 27 = .ok (.aload_n 0, 1) := by decide +kernel
theorem d_M_allocate_28 : decode prog_8_method_38_code 28 = .ok (.getfield 69, 3) := by decide +kernel
theorem d_M_allocate_31 : decode prog_8_method_38_code 31 = .ok (.ifCond .le 5, 3) := by decide +kernel
theorem d_M_allocate_34 : decode prog_8_method_38_code 34 = .ok (.iconst 0, 1) := by decide +kernel
theorem d_M_allocate_35 : decode prog_8_method_38_code 35 = .ok (.ireturn, 1) := by decide +kernel
theorem d_M_allocate_36 : decode prog_8_method_38_code 36 = .ok (.aload_n 0, 1) := by decide +kernel
theorem d_M_allocate_37 : decode prog_8_method_38_code 37 = .ok (.iload_n 2, 1) := by decide +kernel
theorem d_M_allocate_38 : decode prog_8_method_38_code 38 = .ok (.invokevirtual 101, 3) := by decide +kernel
theorem d_M_allocate_41 : decode prog_8_method_38_code 41 = .ok (.istore 4, 2) := by decide +kernel
theorem d_M_allocate_43 : decode prog_8_method_38_code 43 = .ok (.iload 4, 2) := by decide +kernel
theorem d_M_allocate_45 : decode prog_8_method_38_code 45 = .ok (.ifCond .ge 14, 3) := by decide +kernel
theorem d_M_allocate_48 : decode prog_8_method_38_code 48 = .ok (.aload_n 0, 1) := by decide +kernel
theorem d_M_allocate_49 : decode prog_8_method_38_code 49 = .ok (.invokevirtual 209, 3) := by decide +kernel
theorem d_M_allocate_52 : decode prog_8_method_38_code 52 = .ok (.aload_n 0, 1) := by decide +kernel
theorem d_M_allocate_53 : decode prog_8_method_38_code 53 = .ok (.iload_n 2, 1) := by decide +kernel
theorem d_M_allocate_54 : decode prog_8_method_38_code 54 = .ok (.invokevirtual 101, 3) := by decide +kernel
theorem d_M_allocate_57 : decode prog_8_method_38_code 57 = .ok (.istore 4, 2) := by decide +kernel
theorem d_M_allocate_59 : decode prog_8_method_38_code 59 = .ok (.iload 4, 2) := by decide +kernel
theorem d_M_allocate_61 : decode prog_8_method_38_code 61 = .ok (.ifCond .ge 10, 3) := by decide +kernel
theorem d_M_allocate_64 : decode prog_8_method_38_code 64 = .ok (.aload_n 0, 1) := by decide +kernel
theorem d_M_allocate_65 : decode prog_8_method_38_code 65 = .ok (.iconst 2, 1) := by decide +kernel
theorem d_M_allocate_66 : decode prog_8_method_38_code 66 = .ok (.putfield 69, 3) := by decide +kernel
theorem d_M_allocate_69 : decode prog_8_method_38_code 69 = .ok (.iconst 0, 1) := by decide +kernel
theorem d_M_allocate_70 : decode prog_8_method_38_code 70 = .ok (.ireturn, 1) := by decide +kernel
theorem d_M_allocate_71 : decode prog_8_method_38_code 71 = .ok (.aload_n 0, 1) := by decide +kernel
theorem d_M_allocate_72 : decode prog_8_method_38_code 72 = .ok (.iload_n 2, 1) := by decide +kernel
theorem d_M_allocate_73 : decode prog_8_method_38_code 73 = .ok (.iload_n 3, 1) := by decide +kernel
theorem d_M_allocate_74 : decode prog_8_method_38_code 74 = .ok (.invokevirtual 212, 3) := by decide +kernel
theorem d_M_allocate_77 : decode prog_8_method_38_code 77 = .ok (.istore 5, 2) := by decide +kernel
theorem d_M_allocate_79 : decode prog_8_method_38_code 79 = .ok (.aload_n 0, 1) := by decide +kernel
theorem d_M_allocate_80 : decode prog_8_method_38_code 80 = .ok (.iload 5, 2) := by decide +kernel
theorem d_M_allocate_82 : decode prog_8_method_38_code 82 = .ok (.iload 4, 2) := by decide +kernel
theorem d_M_allocate_84 : decode prog_8_method_38_code 84 = .ok (.invokevirtual 108, 3) := by decide +kernel
theorem d_M_allocate_87 : decode prog_8_method_38_code 87 = .ok (.aload_n 0, 1) := by decide +kernel
theorem d_M_allocate_88 : decode prog_8_method_38_code 88 = .ok (.getfield 38, 3) := by decide +kernel
theorem d_M_allocate_91 : decode prog_8_method_38_code 91 = .ok (.iload_n 1, 1) := by decide +kernel
theorem d_M_allocate_92 : decode prog_8_method_38_code 92 = .ok (.iload 5, 2) := by decide +kernel
theorem d_M_allocate_94 : decode prog_8_method_38_code 94 = .ok (.iastore, 1) := by decide +kernel
theorem d_M_allocate_95 : decode prog_8_method_38_code 95 = .ok (.iload 4, 2) := by decide +kernel
theorem d_M_allocate_97 : decode prog_8_method_38_code 97 = .ok (.ireturn, 1) := by decide +kernel
theorem d_M_drop_0 : decode prog_8_method_39_code 0 = .ok (.aload_n 0, 1) := by decide +kernel
theorem d_M_drop_1 : decode prog_8_method_39_code 1 = .ok (.iload_n 1, 1) := by decide +kernel
theorem d_M_drop_2 : decode prog_8_method_39_code 2 = .ok (.invokestatic 206, 3) := by decide +kernel
theorem d_M_drop_5 : decode prog_8_method_39_code 5 = .ok (.ifCond .eq 7, 3) := by decide +kernel
theorem d_M_drop_8 : decode prog_8_method_39_code 8 = .ok (.iconst 0, 1) := by decide +kernel
theorem d_M_drop_9 : decode prog_8_method_39_code 9 = .ok (.goto 4, 3) := by decide +kernel
theorem d_M_drop_12 : decode prog_8_method_39_code 12 = .ok (.iconst 1, 1) := by decide +kernel
theorem d_M_drop_13 : decode prog_8_method_39_code 13 = .ok (.putfield 69, 3) := by decide +kernel
theorem d_M_drop_16 : decode prog_8_method_39_code 16 = .ok (.aload_n 0, 1) := by decide +kernel
theorem d_M_drop_17 : decode prog_8_method_39_code 17 = .ok (.getfield 69, 3) := by decide +kernel
theorem d_M_drop_20 : decode prog_8_method_39_code 20 = .ok (.ifCond .ne 10, 3) := by decide +kernel
theorem d_M_drop_23 : decode prog_8_method_39_code 23 = .ok (.aload_n 0, 1) := by decide +kernel
theorem d_M_drop_24 : decode prog_8_method_39_code 24 = .ok (.getfield 38, 3) := by decide +kernel
theorem d_M_drop_27 : decode prog_8_method_39_code 27 = .ok (.iload_n 1, 1) := by decide +kernel
theorem d_M_drop_28 : decode prog_8_method_39_code 28 = .ok (.iconst (-1), 1) := by decide +kernel
theorem d_M_drop_29 : decode prog_8_method_39_code 29 = .ok (.iastore, 1) := by decide +kernel
theorem d_M_drop_30 : decode prog_8_method_39_code 30 = .ok (.return_, 1) := by decide +kernel
theorem d_M_copy_0 : decode prog_8_method_40_code 0 = .ok (.aload_n 0, 1) := by decide +kernel
theorem d_M_copy_1 : decode prog_8_method_40_code 1 = .ok (.iload_n 1, 1) := by decide +kernel
theorem d_M_copy_2 : decode prog_8_method_40_code 2 = .ok (.invokestatic 206, 3) := by decide +kernel
theorem d_M_copy_5 : decode prog_8_method_40_code 5 = .ok (.ifCond .eq 14, 3) := by decide +kernel
theorem d_M_copy_8 : decode prog_8_method_40_code 8 = .ok (.iload_n 2, 1) := by decide +kernel
theorem d_M_copy_9 : decode prog_8_method_40_code 9 = .ok (.invokestatic 206, 3) := by decide +kernel
theorem d_M_copy_12 : decode prog_8_method_40_code 12 = .ok (.ifCond .eq 7, 3) := by decide +kernel
theorem d_M_copy_15 : decode prog_8_method_40_code 15 = .ok (.iconst 0, 1) := by decide +kernel
theorem d_M_copy_16 : decode prog_8_method_40_code 16 = .ok (.goto 4, 3) := by decide +kernel
theorem d_M_copy_19 : decode prog_8_method_40_code 19 = .ok (.iconst 1, 1) := by decide +kernel
theorem d_M_copy_20 : decode prog_8_method_40_code 20 = .ok (.putfield 69, 3) := by decide +kernel
theorem d_M_copy_23 : decode prog_8_method_40_code 23 = .ok (.aload_n 0, 1) := by decide +kernel
theorem d_M_copy_24 : decode prog_8_method_40_code 24 = .ok (.getfield 69, 3) := by decide +kernel
theorem d_M_copy_27 : decode prog_8_method_40_code 27 = .ok (.ifCond .ne 15, 3) := by decide +kernel
theorem d_M_copy_30 : decode prog_8_method_40_code 30 = .ok (.aload_n 0, 1) := by decide +kernel
theorem d_M_copy_31 : decode prog_8_method_40_code 31 = .ok (.getfield 38, 3) := by decide +kernel
theorem d_M_copy_34 : decode prog_8_method_40_code 34 = .ok (.iload_n 1, 1) := by decide +kernel
theorem d_M_copy_35 : decode prog_8_method_40_code 35 = .ok (.aload_n 0, 1) := by decide +kernel
theorem d_M_copy_36 : decode prog_8_method_40_code 36 = .ok (.getfield 38, 3) := by decide +kernel
theorem d_M_copy_39 : decode prog_8_method_40_code 39 = .ok (.iload_n 2, 1) := by decide +kernel
theorem d_M_copy_40 : decode prog_8_method_40_code 40 = .ok (.iaload, 1) := by decide +kernel
theorem d_M_copy_41 : decode prog_8_method_40_code 41 = .ok (.iastore, 1) := by decide +kernel
theorem d_M_copy_42 : decode prog_8_method_40_code 42 = .ok (.return_, 1) := by decide +kernel
theorem d_M_reach_0 : decode prog_8_method_41_code 0 = .ok (.aload_n 0, 1) := by decide +kernel
theorem d_M_reach_1 : decode prog_8_method_41_code 1 = .ok (.iload_n 1, 1) := by decide +kernel
theorem d_M_reach_2 : decode prog_8_method_41_code 2 = .ok (.invokestatic 206, 3) := by decide +kernel
theorem d_M_reach_5 : decode prog_8_method_41_code 5 = .ok (.ifCond .eq 10, 3) := by decide +kernel
theorem d_M_reach_8 : decode prog_8_method_41_code 8 = .ok (.iload_n 2, 1) := by decide +kernel
theorem d_M_reach_9 : decode prog_8_method_41_code 9 = .ok (.invokestatic 206, 3) := by decide +kernel
theorem d_M_reach_12 : decode prog_8_method_41_code 12 = .ok (.ifCond .ne 7, 3) := by decide +kernel
theorem d_M_reach_15 : decode prog_8_method_41_code 15 = .ok (.iconst 1, 1) := by decide +kernel
theorem d_M_reach_16 : decode prog_8_method_41_code 16 = .ok (.goto 17, 3) := by decide +kernel
theorem d_M_reach_19 : decode prog_8_method_41_code 19 = .ok (.aload_n 0, 1) := by decide +kernel
theorem d_M_reach_20 : decode prog_8_method_41_code 20 = .ok (.getfield 38, 3) := by decide +kernel
theorem d_M_reach_23 : decode prog_8_method_41_code 23 = .ok (.iload_n 1, 1) := by decide +kernel
theorem d_M_reach_24 : decode prog_8_method_41_code 24 = .ok (.iaload, 1) := by decide +kernel
theorem d_M_reach_25 : decode prog_8_method_41_code 25 = .ok (.ifCond .ge 7, 3) := by decide +kernel
theorem d_M_reach_28 : decode prog_8_method_41_code 28 = .ok (.iconst 2, 1) := by decide +kernel
theorem d_M_reach_29 : decode prog_8_method_41_code 29 = .ok (.goto 4, 3) := by decide +kernel
theorem d_M_reach_32 : decode prog_8_method_41_code 32 = .ok (.iconst 0, 1) := by decide +kernel
theorem d_M_reach_33 : decode prog_8_method_41_code 33 = .ok (.putfield 69, 3) := by decide +kernel
theorem d_M_reach_36 : decode prog_8_method_41_code 36 = .ok (.aload_n 0, 1) := by decide +kernel
theorem d_M_reach_37 : decode prog_8_method_41_code 37 = .ok (.getfield 69, 3) := by decide +kernel
theorem d_M_reach_40 : decode prog_8_method_41_code 40 = .ok (.ifCond .ne 31, 3) := by decide +kernel
theorem d_M_reach_43 : decode prog_8_method_41_code 43 = .ok (.aload_n 0, 1) := by decide +kernel
theorem d_M_reach_44 : decode prog_8_method_41_code 44 = .ok (.iload_n 3, 1) := by decide +kernel
theorem d_M_reach_45 : decode prog_8_method_41_code 45 = .ok (.ifCond .lt 22, 3) := by decide +kernel
theorem d_M_reach_48 : decode prog_8_method_41_code 48 = .ok (.iload_n 3, 1) := by decide +kernel
theorem d_M_reach_49 : decode prog_8_method_41_code 49 = .ok (.aload_n 0, 1) := by decide +kernel
theorem d_M_reach_50 : decode prog_8_method_41_code 50 = .ok (.getfield 19, 3) := by decide +kernel
theorem d_M_reach_53 : decode prog_8_method_41_code 53 = .ok (.aload_n 0, 1) := by decide +kernel
theorem d_M_reach_54 : decode prog_8_method_41_code 54 = .ok (.getfield 38, 3) := by decide +kernel
theorem d_M_reach_57 : decode prog_8_method_41_code 57 = .ok (.iload_n 1, 1) := by decide +kernel
theorem d_M_reach_58 : decode prog_8_method_41_code 58 = .ok (.iaload, 1) := by decide +kernel
theorem d_M_reach_59 : decode prog_8_method_41_code 59 = .ok (.iaload, 1) := by decide +kernel
theorem d_M_reach_60 : decode prog_8_method_41_code 60 = .ok (.if_icmp .ge 7, 3) := by decide +kernel
theorem d_M_reach_63 : decode prog_8_method_41_code 63 = .ok (.iconst 0, 1) := by decide +kernel
theorem d_M_reach_64 : decode prog_8_method_41_code 64 = .ok (.goto 4, 3) := by decide +kernel
theorem d_M_reach_67 : decode prog_8_method_41_code 67 = .ok (.iconst 3, 1) := by decide +kernel
theorem d_M_reach_68 : decode prog_8_method_41_code 68 = .ok (.putfield 69, 3) := by decide +kernel
theorem d_M_reach_71 : decode prog_8_method_41_code 71 = .ok (.return_, 1) := by decide +kernel
theorem d_M_load_0 : decode prog_8_method_42_code 0 = .ok (.aload_n 0, 1) := by decide +kernel
theorem d_M_load_1 : decode prog_8_method_42_code 1 = .ok (.iload_n 2, 1) := by decide +kernel
theorem d_M_load_2 : decode prog_8_method_42_code 2 = .ok (.iload_n 1, 1) := by decide +kernel
theorem d_M_load_3 : decode prog_8_method_42_code 3 = .ok (.iload_n 3, 1) := by decide +kernel
theorem d_M_load_4 : decode prog_8_method_42_code 4 = .ok (.invokevirtual 216, 3) := by decide +kernel
theorem d_M_load_7 : decode prog_8_method_42_code 7 = .ok (.aload_n 0, 1) := by decide +kernel
theorem d_M_load_8 : decode prog_8_method_42_code 8 = .ok (.getfield 69, 3) := by decide +kernel
theorem d_M_load_11 : decode prog_8_method_42_code 11 = .ok (.ifCond .le 5, 3) := by decide +kernel
theorem d_M_load_14 : decode prog_8_method_42_code 14 = .ok (.iconst 0, 1) := by decide +kernel
theorem d_M_load_15 : decode prog_8_method_42_code 15 = .ok (.ireturn, 1) := by decide +kernel
theorem d_M_load_16 : decode prog_8_method_42_code 16 = .ok (.aload_n 0, 1) := by decide +kernel
theorem d_M_load_17 : decode prog_8_method_42_code 17 = .ok (.getfield 38, 3) := by decide +kernel
theorem d_M_load_20 : decode prog_8_method_42_code 20 = .ok (.iload_n 1, 1) := by decide +kernel
theorem d_M_load_21 : decode prog_8_method_42_code 21 = .ok (.aload_n 0, 1) := by decide +kernel
theorem d_M_load_22 : decode prog_8_method_42_code 22 = .ok (.getfield 31, 3) := by decide +kernel
theorem d_M_load_25 : decode prog_8_method_42_code 25 = .ok (.bipush 12, 2) := by decide +kernel
theorem d_M_load_27 : decode prog_8_method_42_code 27 = .ok (.aload_n 0, 1) := by decide +kernel
theorem d_M_load_28 : decode prog_8_method_42_code 28 = .ok (.getfield 38, 3) := by decide +kernel
theorem d_M_load_31 : decode prog_8_method_42_code 31 = .ok (.iload_n 2, 1) := by decide +kernel
theorem d_M_load_32 : decode prog_8_method_42_code 32 = .ok (.iaload, 1) := by decide +kernel
theorem d_M_load_33 : decode prog_8_method_42_code 33 = .ok (.imul, 1) := by decide +kernel
theorem d_M_load_34 : decode prog_8_method_42_code 34 = .ok (.iload_n 3, 1) := by decide +kernel
theorem d_M_load_35 : decode prog_8_method_42_code 35 = .ok (.iadd, 1) := by decide +kernel
theorem d_M_load_36 : decode prog_8_method_42_code 36 = .ok (.iaload, 1) := by decide +kernel
theorem d_M_load_37 : decode prog_8_method_42_code 37 = .ok (.iastore, 1) := by decide +kernel
theorem d_M_load_38 : decode prog_8_method_42_code 38 = .ok (.aload_n 0, 1) := by decide +kernel
theorem d_M_load_39 : decode prog_8_method_42_code 39 = .ok (.aload_n 0, 1) := by decide +kernel
theorem d_M_load_40 : decode prog_8_method_42_code 40 = .ok (.getfield 38, 3) := by decide +kernel
theorem d_M_load_43 : decode prog_8_method_42_code 43 = .ok (.iload_n 1, 1) := by decide +kernel
theorem d_M_load_44 : decode prog_8_method_42_code 44 = .ok (.iaload, 1) := by decide +kernel
theorem d_M_load_45 : decode prog_8_method_42_code 45 = .ok (.invokevirtual 220, 3) := by decide +kernel
theorem d_M_load_48 : decode prog_8_method_42_code 48 = .ok (.ireturn, 1) := by decide +kernel
theorem d_M_store_0 : decode prog_8_method_43_code 0 = .ok (.aload_n 0, 1) := by decide +kernel
theorem d_M_store_1 : decode prog_8_method_43_code 1 = .ok (.iload_n 1, 1) := by decide +kernel
theorem d_M_store_2 : decode prog_8_method_43_code 2 = .ok (.iload_n 3, 1) := by decide +kernel
theorem d_M_store_3 : decode prog_8_method_43_code 3 = .ok (.iload_n 2, 1) := by decide +kernel
theorem d_M_store_4 : decode prog_8_method_43_code 4 = .ok (.invokevirtual 216, 3) := by decide +kernel
theorem d_M_store_7 : decode prog_8_method_43_code 7 = .ok (.aload_n 0, 1) := by decide +kernel
theorem d_M_store_8 : decode prog_8_method_43_code 8 = .ok (.getfield 69, 3) := by decide +kernel
theorem d_M_store_11 : decode prog_8_method_43_code 11 = .ok (.ifCond .le 4, 3) := by decide +kernel
theorem d_M_store_14 : decode prog_8_method_43_code 14 = .ok (.return_, 1) := by decide +kernel
theorem d_M_store_15 : decode prog_8_method_43_code 15 = .ok (.aload_n 0, 1) := by decide +kernel
theorem d_M_store_16 : decode prog_8_method_43_code 16 = .ok (.getfield 38, 3) := by decide +kernel
theorem d_M_store_19 : decode prog_8_method_43_code 19 = .ok (.iload_n 1, 1) := by decide +kernel
theorem d_M_store_20 : decode prog_8_method_43_code 20 = .ok (.iaload, 1) := by decide +kernel
theorem d_M_store_21 : decode prog_8_method_43_code 21 = .ok (.istore 4, 2) := by decide +kernel
theorem d_M_store_23 : decode prog_8_method_43_code 23 = .ok (.bipush 12, 2) := by decide +kernel
theorem d_M_store_25 : decode prog_8_method_43_code 25 = .ok (.iload 4, 2) := by decide +kernel
theorem d_M_store_27 : decode prog_8_method_43_code 27 = .ok (.imul, 1) := by decide +kernel
theorem d_M_store_28 : decode prog_8_method_43_code 28 = .ok (.iload_n 2, 1) := by decide +kernel
theorem d_M_store_29 : decode prog_8_method_43_code 29 = .ok (.iadd, 1) := by decide +kernel
theorem d_M_store_30 : decode prog_8_method_43_code 30 = .ok (.istore 5, 2) := by decide +kernel
theorem d_M_store_32 : decode prog_8_method_43_code 32 = .ok (.aload_n 0, 1) := by decide +kernel
theorem d_M_store_33 : decode prog_8_method_43_code 33 = .ok (.getfield 13, 3) := by decide +kernel
theorem d_M_store_36 : decode prog_8_method_43_code 36 = .ok (.iload 4, 2) := by decide +kernel
theorem d_M_store_38 : decode prog_8_method_43_code 38 = .ok (.iaload, 1) := by decide +kernel
theorem d_M_store_39 : decode prog_8_method_43_code 39 = .ok (.iconst 2, 1) := by decide +kernel
theorem d_M_store_40 : decode prog_8_method_43_code 40 = .ok (.if_icmp .ne 58, 3) := by decide +kernel
theorem d_M_store_43 : decode prog_8_method_43_code 43 = .ok (.aload_n 0, 1) := by decide +kernel
theorem d_M_store_44 : decode prog_8_method_43_code 44 = .ok (.getfield 34, 3) := by decide +kernel
theorem d_M_store_47 : decode prog_8_method_43_code 47 = .ok (.iload 5, 2) := by decide +kernel
theorem d_M_store_49 : decode prog_8_method_43_code 49 = .ok (.baload, 1) := by decide +kernel
theorem d_M_store_50 : decode prog_8_method_43_code 50 = .ok (.ifCond .ne 48, 3) := by decide +kernel
theorem d_M_store_53 : decode prog_8_method_43_code 53 = .ok (.aload_n 0, 1) := by decide +kernel
theorem d_M_store_54 : decode prog_8_method_43_code 54 = .ok (.getfield 34, 3) := by decide +kernel
theorem d_M_store_57 : decode prog_8_method_43_code 57 = .ok (.iload 5, 2) := by decide +kernel
theorem d_M_store_59 : decode prog_8_method_43_code 59 = .ok (.iconst 1, 1) := by decide +kernel
theorem d_M_store_60 : decode prog_8_method_43_code 60 = .ok (.bastore, 1) := by decide +kernel
theorem d_M_store_61 : decode prog_8_method_43_code 61 = .ok (.aload_n 0, 1) := by decide +kernel
theorem d_M_store_62 : decode prog_8_method_43_code 62 = .ok (.getfield 60, 3) := by decide +kernel
theorem d_M_store_65 : decode prog_8_method_43_code 65 = .ok (.aload_n 0, 1) := by decide +kernel
theorem d_M_store_66 : decode prog_8_method_43_code 66 = .ok (.getfield 153, 3) := by decide +kernel
theorem d_M_store_69 : decode prog_8_method_43_code 69 = .ok (.iload 5, 2) := by decide +kernel
theorem d_M_store_71 : decode prog_8_method_43_code 71 = .ok (.iastore, 1) := by decide +kernel
theorem d_M_store_72 : decode prog_8_method_43_code 72 = .ok (.aload_n 0, 1) := by decide +kernel
theorem d_M_store_73 : decode prog_8_method_43_code 73 = .ok (.getfield 63, 3) := by decide +kernel
theorem d_M_store_76 : decode prog_8_method_43_code 76 = .ok (.aload_n 0, 1) := by decide +kernel
theorem d_M_store_77 : decode prog_8_method_43_code 77 = .ok (.getfield 153, 3) := by decide +kernel
theorem d_M_store_80 : decode prog_8_method_43_code 80 = .ok (.aload_n 0, 1) := by decide +kernel
theorem d_M_store_81 : decode prog_8_method_43_code 81 = .ok (.getfield 31, 3) := by decide +kernel
theorem d_M_store_84 : decode prog_8_method_43_code 84 = .ok (.iload 5, 2) := by decide +kernel
theorem d_M_store_86 : decode prog_8_method_43_code 86 = .ok (.iaload, 1) := by decide +kernel
theorem d_M_store_87 : decode prog_8_method_43_code 87 = .ok (.iastore, 1) := by decide +kernel
theorem d_M_store_88 : decode prog_8_method_43_code 88 = .ok (.aload_n 0, 1) := by decide +kernel
theorem d_M_store_89 : decode prog_8_method_43_code 89 = .ok (.dup, 1) := by decide +kernel
theorem d_M_store_90 : decode prog_8_method_43_code 90 = .ok (.getfield 153, 3) := by decide +kernel
theorem d_M_store_93 : decode prog_8_method_43_code 93 = .ok (.iconst 1, 1) := by decide +kernel
theorem d_M_store_94 : decode prog_8_method_43_code 94 = .ok (.iadd, 1) := by decide +kernel
theorem d_M_store_95 : decode prog_8_method_43_code 95 = .ok (.putfield 153, 3) := by decide +kernel
theorem d_M_store_98 : decode prog_8_method_43_code 98 = .ok (.aload_n 0, 1) := by decide +kernel
theorem d_M_store_99 : decode prog_8_method_43_code 99 = .ok (.getfield 31, 3) := by decide +kernel
theorem d_M_store_102 : decode prog_8_method_43_code 102 = .ok (.iload 5, 2) := by decide +kernel
theorem d_M_store_104 : decode prog_8_method_43_code 104 = .ok (.aload_n 0, 1) := by decide +kernel
theorem d_M_store_105 : decode prog_8_method_43_code 105 = .ok (.getfield 38, 3) := by decide +kernel
theorem d_M_store_108 : decode prog_8_method_43_code 108 = .ok (.iload_n 3, 1) := by decide +kernel
theorem d_M_store_109 : decode prog_8_method_43_code 109 = .ok (.iaload, 1) := by decide +kernel
theorem d_M_store_110 : decode prog_8_method_43_code 110 = .ok (.iastore, 1) := by decide +kernel
theorem d_M_store_111 : decode prog_8_method_43_code 111 = .ok (.return_, 1) := by decide +kernel
theorem d_M_drain_0 : decode prog_8_method_44_code 0 = .ok (.aload_n 0, 1) := by decide +kernel
theorem d_M_drain_1 : decode prog_8_method_44_code 1 = .ok (.iload_n 1, 1) := by decide +kernel
theorem d_M_drain_2 : decode prog_8_method_44_code 2 = .ok (.ifCond .ge 7, 3) := by decide +kernel
theorem d_M_drain_5 : decode prog_8_method_44_code 5 = .ok (.iconst 1, 1) := by decide +kernel
theorem d_M_drain_6 : decode prog_8_method_44_code 6 = .ok (.goto 4, 3) := by decide +kernel
theorem d_M_drain_9 : decode prog_8_method_44_code 9 = .ok (.iconst 0, 1) := by decide +kernel
theorem d_M_drain_10 : decode prog_8_method_44_code 10 = .ok (.putfield 69, 3) := by decide +kernel
theorem d_M_drain_13 : decode prog_8_method_44_code 13 = .ok (.iconst 0, 1) := by decide +kernel
theorem d_M_drain_14 : decode prog_8_method_44_code 14 = .ok (.istore_n 2, 1) := by decide +kernel
theorem d_M_drain_15 : decode prog_8_method_44_code 15 = .ok (.iload_n 2, 1) := by decide +kernel
theorem d_M_drain_16 : decode prog_8_method_44_code 16 = .ok (.iload_n 1, 1) := by decide +kernel
theorem d_M_drain_17 : decode prog_8_method_44_code 17 = .ok (.if_icmp .ge 20, 3) := by decide +kernel
theorem d_M_drain_20 : decode prog_8_method_44_code 20 = .ok (.aload_n 0, 1) := by decide +kernel
theorem d_M_drain_21 : decode prog_8_method_44_code 21 = .ok (.getfield 118, 3) := by decide +kernel
theorem d_M_drain_24 : decode prog_8_method_44_code 24 = .ok (.ifCond .le 13, 3) := by decide +kernel
theorem d_M_drain_27 : decode prog_8_method_44_code 27 = .ok (.aload_n 0, 1) := by decide +kernel
theorem d_M_drain_28 : decode prog_8_method_44_code 28 = .ok (.invokevirtual 134, 3) := by decide +kernel
theorem d_M_drain_31 : decode prog_8_method_44_code 31 = .ok (.iinc 2 1, 3) := by decide +kernel
theorem d_M_drain_34 : decode prog_8_method_44_code 34 = .ok (.goto (-19), 3) := by decide +kernel
theorem d_M_drain_37 : decode prog_8_method_44_code 37 = .ok (.aload_n 0, 1) := by decide +kernel
theorem d_M_drain_38 : decode prog_8_method_44_code 38 = .ok (.getfield 69, 3) := by decide +kernel
theorem d_M_drain_41 : decode prog_8_method_44_code 41 = .ok (.ifCond .le 7, 3) := by decide +kernel
theorem d_M_drain_44 : decode prog_8_method_44_code 44 = .ok (.iconst 0, 1) := by decide +kernel
theorem d_M_drain_45 : decode prog_8_method_44_code 45 = .ok (.goto 7, 3) := by decide +kernel
theorem d_M_drain_48 : decode prog_8_method_44_code 48 = .ok (.aload_n 0, 1) := by decide +kernel
theorem d_M_drain_49 : decode prog_8_method_44_code 49 = .ok (.getfield 118, 3) := by decide +kernel
theorem d_M_drain_52 : decode prog_8_method_44_code 52 = .ok (.ireturn, 1) := by decide +kernel
theorem d_M_trace_0 : decode prog_8_method_45_code 0 = .ok (.aload_n 0, 1) := by decide +kernel
theorem d_M_trace_1 : decode prog_8_method_45_code 1 = .ok (.iload_n 1, 1) := by decide +kernel
theorem d_M_trace_2 : decode prog_8_method_45_code 2 = .ok (.ifCond .ge 7, 3) := by decide +kernel
theorem d_M_trace_5 : decode prog_8_method_45_code 5 = .ok (.iconst 1, 1) := by decide +kernel
theorem d_M_trace_6 : decode prog_8_method_45_code 6 = .ok (.goto 15, 3) := by decide +kernel
theorem d_M_trace_9 : decode prog_8_method_45_code 9 = .ok (.aload_n 0, 1) := by decide +kernel
theorem d_M_trace_10 : decode prog_8_method_45_code 10 = .ok (.getfield 143, 3) := by decide +kernel
theorem d_M_trace_13 : decode prog_8_method_45_code 13 = .ok (.ifCond .eq 7, 3) := by decide +kernel
theorem d_M_trace_16 : decode prog_8_method_45_code 16 = .ok (.iconst 0, 1) := by decide +kernel
theorem d_M_trace_17 : decode prog_8_method_45_code 17 = .ok (.goto 4, 3) := by decide +kernel
theorem d_M_trace_20 : decode prog_8_method_45_code 20 = .ok (.iconst 2, 1) := by decide +kernel
theorem d_M_trace_21 : decode prog_8_method_45_code 21 = .ok (.putfield 69, 3) := by decide +kernel
theorem d_M_trace_24 : decode prog_8_method_45_code 24 = .ok (.aload_n 0, 1) := by decide +kernel
theorem d_M_trace_25 : decode prog_8_method_45_code 25 = .ok (.getfield 69, 3) := by decide +kernel
theorem d_M_trace_28 : decode prog_8_method_45_code 28 = .ok (.ifCond .le 5, 3) := by decide +kernel
theorem d_M_trace_31 : decode prog_8_method_45_code 31 = .ok (.iconst 0, 1) := by decide +kernel
theorem d_M_trace_32 : decode prog_8_method_45_code 32 = .ok (.ireturn, 1) := by decide +kernel
theorem d_M_trace_33 : decode prog_8_method_45_code 33 = .ok (.iconst 0, 1) := by decide +kernel
theorem d_M_trace_34 : decode prog_8_method_45_code 34 = .ok (.istore_n 2, 1) := by decide +kernel
theorem d_M_trace_35 : decode prog_8_method_45_code 35 = .ok (.iload_n 2, 1) := by decide +kernel
theorem d_M_trace_36 : decode prog_8_method_45_code 36 = .ok (.iload_n 1, 1) := by decide +kernel
theorem d_M_trace_37 : decode prog_8_method_45_code 37 = .ok (.if_icmp .ge 20, 3) := by decide +kernel
theorem d_M_trace_40 : decode prog_8_method_45_code 40 = .ok (.aload_n 0, 1) := by decide +kernel
theorem d_M_trace_41 : decode prog_8_method_45_code 41 = .ok (.invokevirtual 184, 3) := by decide +kernel
theorem d_M_trace_44 : decode prog_8_method_45_code 44 = .ok (.ifCond .le 13, 3) := by decide +kernel
theorem d_M_trace_47 : decode prog_8_method_45_code 47 = .ok (.aload_n 0, 1) := by decide +kernel
theorem d_M_trace_48 : decode prog_8_method_45_code 48 = .ok (.invokevirtual 203, 3) := by decide +kernel
theorem d_M_trace_51 : decode prog_8_method_45_code 51 = .ok (.iinc 2 1, 3) := by decide +kernel
theorem d_M_trace_54 : decode prog_8_method_45_code 54 = .ok (.goto (-19), 3) := by decide +kernel
theorem d_M_trace_57 : decode prog_8_method_45_code 57 = .ok (.aload_n 0, 1) := by decide +kernel
theorem d_M_trace_58 : decode prog_8_method_45_code 58 = .ok (.invokevirtual 184, 3) := by decide +kernel
theorem d_M_trace_61 : decode prog_8_method_45_code 61 = .ok (.ireturn, 1) := by decide +kernel
theorem d_M_pause_0 : decode prog_8_method_46_code 0 = .ok (.aload_n 0, 1) := by decide +kernel
theorem d_M_pause_1 : decode prog_8_method_46_code 1 = .ok (.iconst 0, 1) := by decide +kernel
theorem d_M_pause_2 : decode prog_8_method_46_code 2 = .ok (.putfield 69, 3) := by decide +kernel
theorem d_M_pause_5 : decode prog_8_method_46_code 5 = .ok (.aload_n 0, 1) := by decide +kernel
theorem d_M_pause_6 : decode prog_8_method_46_code 6 = .ok (.iload_n 1, 1) := by decide +kernel
theorem d_M_pause_7 : decode prog_8_method_46_code 7 = .ok (.invokevirtual 199, 3) := by decide +kernel
theorem d_M_pause_10 : decode prog_8_method_46_code 10 = .ok (.ireturn, 1) := by decide +kernel
theorem d_M_root_0 : decode prog_8_method_47_code 0 = .ok (.aload_n 0, 1) := by decide +kernel
theorem d_M_root_1 : decode prog_8_method_47_code 1 = .ok (.iload_n 1, 1) := by decide +kernel
theorem d_M_root_2 : decode prog_8_method_47_code 2 = .ok (.invokestatic 206, 3) := by decide +kernel
theorem d_M_root_5 : decode prog_8_method_47_code 5 = .ok (.ifCond .eq 7, 3) := by decide +kernel
theorem d_M_root_8 : decode prog_8_method_47_code 8 = .ok (.iconst 0, 1) := by decide +kernel
theorem d_M_root_9 : decode prog_8_method_47_code 9 = .ok (.goto 4, 3) := by decide +kernel
theorem d_M_root_12 : decode prog_8_method_47_code 12 = .ok (.iconst 1, 1) := by decide +kernel
theorem d_M_root_13 : decode prog_8_method_47_code 13 = .ok (.putfield 69, 3) := by decide +kernel
theorem d_M_root_16 : decode prog_8_method_47_code 16 = .ok (.aload_n 0, 1) := by decide +kernel
theorem d_M_root_17 : decode prog_8_method_47_code 17 = .ok (.getfield 69, 3) := by decide +kernel
theorem d_M_root_20 : decode prog_8_method_47_code 20 = .ok (.ifCond .le 7, 3) := by decide +kernel
theorem d_M_root_23 : decode prog_8_method_47_code 23 = .ok (.iconst 0, 1) := by decide +kernel
theorem d_M_root_24 : decode prog_8_method_47_code 24 = .ok (.goto 13, 3) := by decide +kernel
theorem d_M_root_27 : decode prog_8_method_47_code 27 = .ok (.aload_n 0, 1) := by decide +kernel
theorem d_M_root_28 : decode prog_8_method_47_code 28 = .ok (.aload_n 0, 1) := by decide +kernel
theorem d_M_root_29 : decode prog_8_method_47_code 29 = .ok (.getfield 38, 3) := by decide +kernel
theorem d_M_root_32 : decode prog_8_method_47_code 32 = .ok (.iload_n 1, 1) := by decide +kernel
theorem d_M_root_33 : decode prog_8_method_47_code 33 = .ok (.iaload, 1) := by decide +kernel
theorem d_M_root_34 : decode prog_8_method_47_code 34 = .ok (.invokevirtual 220, 3) := by decide +kernel
theorem d_M_root_37 : decode prog_8_method_47_code 37 = .ok (.ireturn, 1) := by decide +kernel
theorem d_M_field_0 : decode prog_8_method_48_code 0 = .ok (.aload_n 0, 1) := by decide +kernel
theorem d_M_field_1 : decode prog_8_method_48_code 1 = .ok (.iload_n 1, 1) := by decide +kernel
theorem d_M_field_2 : decode prog_8_method_48_code 2 = .ok (.invokevirtual 137, 3) := by decide +kernel
theorem d_M_field_5 : decode prog_8_method_48_code 5 = .ok (.istore_n 3, 1) := by decide +kernel
theorem d_M_field_6 : decode prog_8_method_48_code 6 = .ok (.aload_n 0, 1) := by decide +kernel
theorem d_M_field_7 : decode prog_8_method_48_code 7 = .ok (.iload_n 3, 1) := by decide +kernel
theorem d_M_field_8 : decode prog_8_method_48_code 8 = .ok (.ifCond .ge 7, 3) := by decide +kernel
theorem d_M_field_11 : decode prog_8_method_48_code 11 = .ok (.iconst 1, 1) := by decide +kernel
theorem d_M_field_12 : decode prog_8_method_48_code 12 = .ok (.goto 4, 3) := by decide +kernel
theorem d_M_field_15 : decode prog_8_method_48_code 15 = .ok (.iconst 0, 1) := by decide +kernel
theorem d_M_field_16 : decode prog_8_method_48_code 16 = .ok (.putfield 69, 3) := by decide +kernel
theorem d_M_field_19 : decode prog_8_method_48_code 19 = .ok (.aload_n 0, 1) := by decide +kernel
theorem d_M_field_20 : decode prog_8_method_48_code 20 = .ok (.getfield 69, 3) := by decide +kernel
theorem d_M_field_23 : decode prog_8_method_48_code 23 = .ok (.ifCond .ne 26, 3) := by decide +kernel
theorem d_M_field_26 : decode prog_8_method_48_code 26 = .ok (.aload_n 0, 1) := by decide +kernel
theorem d_M_field_27 : decode prog_8_method_48_code 27 = .ok (.iload_n 2, 1) := by decide +kernel
theorem d_M_field_28 : decode prog_8_method_48_code 28 = .ok (.ifCond .lt 17, 3) := by decide +kernel
theorem d_M_field_31 : decode prog_8_method_48_code 31 = .ok (.iload_n 2, 1) := by decide +kernel
theorem d_M_field_32 : decode prog_8_method_48_code 32 = .ok (.aload_n 0, 1) := by decide +kernel
theorem d_M_field_33 : decode prog_8_method_48_code 33 = .ok (.getfield 19, 3) := by decide +kernel
theorem d_M_field_36 : decode prog_8_method_48_code 36 = .ok (.iload_n 3, 1) := by decide +kernel
theorem d_M_field_37 : decode prog_8_method_48_code 37 = .ok (.iaload, 1) := by decide +kernel
theorem d_M_field_38 : decode prog_8_method_48_code 38 = .ok (.if_icmp .ge 7, 3) := by decide +kernel
theorem d_M_field_41 : decode prog_8_method_48_code 41 = .ok (.iconst 0, 1) := by decide +kernel
theorem d_M_field_42 : decode prog_8_method_48_code 42 = .ok (.goto 4, 3) := by decide +kernel
theorem d_M_field_45 : decode prog_8_method_48_code 45 = .ok (.iconst 2, 1) := by decide +kernel
theorem d_M_field_46 : decode prog_8_method_48_code 46 = .ok (.putfield 69, 3) := by decide +kernel
theorem d_M_field_49 : decode prog_8_method_48_code 49 = .ok (.aload_n 0, 1) := by decide +kernel
theorem d_M_field_50 : decode prog_8_method_48_code 50 = .ok (.getfield 69, 3) := by decide +kernel
theorem d_M_field_53 : decode prog_8_method_48_code 53 = .ok (.ifCond .le 7, 3) := by decide +kernel
theorem d_M_field_56 : decode prog_8_method_48_code 56 = .ok (.iconst 0, 1) := by decide +kernel
theorem d_M_field_57 : decode prog_8_method_48_code 57 = .ok (.goto 18, 3) := by decide +kernel
theorem d_M_field_60 : decode prog_8_method_48_code 60 = .ok (.aload_n 0, 1) := by decide +kernel
theorem d_M_field_61 : decode prog_8_method_48_code 61 = .ok (.aload_n 0, 1) := by decide +kernel
theorem d_M_field_62 : decode prog_8_method_48_code 62 = .ok (.getfield 31, 3) := by decide +kernel
theorem d_M_field_65 : decode prog_8_method_48_code 65 = .ok (.bipush 12, 2) := by decide +kernel
theorem d_M_field_67 : decode prog_8_method_48_code 67 = .ok (.iload_n 3, 1) := by decide +kernel
theorem d_M_field_68 : decode prog_8_method_48_code 68 = .ok (.imul, 1) := by decide +kernel
theorem d_M_field_69 : decode prog_8_method_48_code 69 = .ok (.iload_n 2, 1) := by decide +kernel
theorem d_M_field_70 : decode prog_8_method_48_code 70 = .ok (.iadd, 1) := by decide +kernel
theorem d_M_field_71 : decode prog_8_method_48_code 71 = .ok (.iaload, 1) := by decide +kernel
theorem d_M_field_72 : decode prog_8_method_48_code 72 = .ok (.invokevirtual 220, 3) := by decide +kernel
theorem d_M_field_75 : decode prog_8_method_48_code 75 = .ok (.ireturn, 1) := by decide +kernel
theorem d_M_object_0 : decode prog_8_method_49_code 0 = .ok (.aload_n 0, 1) := by decide +kernel
theorem d_M_object_1 : decode prog_8_method_49_code 1 = .ok (.iload_n 1, 1) := by decide +kernel
theorem d_M_object_2 : decode prog_8_method_49_code 2 = .ok (.invokevirtual 137, 3) := by decide +kernel
theorem d_M_object_5 : decode prog_8_method_49_code 5 = .ok (.istore_n 3, 1) := by decide +kernel
theorem d_M_object_6 : decode prog_8_method_49_code 6 = .ok (.aload_n 0, 1) := by decide +kernel
theorem d_M_object_7 : decode prog_8_method_49_code 7 = .ok (.iload_n 2, 1) := by decide +kernel
theorem d_M_object_8 : decode prog_8_method_49_code 8 = .ok (.ifCond .lt 8, 3) := by decide +kernel
theorem d_M_object_11 : decode prog_8_method_49_code 11 = .ok (.iload_n 2, 1) := by decide +kernel
theorem d_M_object_12 : decode prog_8_method_49_code 12 = .ok (.iconst 3, 1) := by decide +kernel
theorem d_M_object_13 : decode prog_8_method_49_code 13 = .ok (.if_icmp .le 7, 3) := by decide +kernel
theorem d_M_object_16 : decode prog_8_method_49_code 16 = .ok (.iconst 1, 1) := by decide +kernel
theorem d_M_object_17 : decode prog_8_method_49_code 17 = .ok (.goto 12, 3) := by decide +kernel
theorem d_M_object_20 : decode prog_8_method_49_code 20 = .ok (.iload_n 3, 1) := by decide +kernel
theorem d_M_object_21 : decode prog_8_method_49_code 21 = .ok (.ifCond .ge 7, 3) := by decide +kernel
theorem d_M_object_24 : decode prog_8_method_49_code 24 = .ok (.iconst 2, 1) := by decide +kernel
theorem d_M_object_25 : decode prog_8_method_49_code 25 = .ok (.goto 4, 3) := by decide +kernel
theorem d_M_object_28 : decode prog_8_method_49_code 28 = .ok (.iconst 0, 1) := by decide +kernel
theorem d_M_object_29 : decode prog_8_method_49_code 29 = .ok (.putfield 69, 3) := by decide +kernel
theorem d_M_object_32 : decode prog_8_method_49_code 32 = .ok (.aload_n 0, 1) := by decide +kernel
theorem d_M_object_33 : decode prog_8_method_49_code 33 = .ok (.getfield 69, 3) := by decide +kernel
theorem d_M_object_36 : decode prog_8_method_49_code 36 = .ok (.ifCond .le 5, 3) := by decide +kernel
theorem d_M_object_39 : decode prog_8_method_49_code 39 = .ok (.iconst 0, 1) := by decide +kernel
theorem d_M_object_40 : decode prog_8_method_49_code 40 = .ok (.ireturn, 1) := by decide +kernel
theorem d_M_object_41 : decode prog_8_method_49_code 41 = .ok (.iload_n 2, 1) := by decide +kernel
theorem d_M_object_42 : decode prog_8_method_49_code 42 = .ok (.ifCond .ne 12, 3) := by decide +kernel
theorem d_M_object_45 : decode prog_8_method_49_code 45 = .ok (.aload_n 0, 1) := by decide +kernel
theorem d_M_object_46 : decode prog_8_method_49_code 46 = .ok (.getfield 19, 3) := by decide +kernel
theorem d_M_object_49 : decode prog_8_method_49_code 49 = .ok (.iload_n 3, 1) := by decide +kernel
theorem d_M_object_50 : decode prog_8_method_49_code 50 = .ok (.iaload, 1) := by decide +kernel
theorem d_M_object_51 : decode prog_8_method_49_code 51 = .ok (.goto 37, 3) := by decide +kernel
theorem d_M_object_54 : decode prog_8_method_49_code 54 = .ok (.iload_n 2, 1) := by decide +kernel
theorem d_M_object_55 : decode prog_8_method_49_code 55 = .ok (.iconst 1, 1) := by decide +kernel
theorem d_M_object_56 : decode prog_8_method_49_code 56 = .ok (.if_icmp .ne 12, 3) := by decide +kernel
theorem d_M_object_59 : decode prog_8_method_49_code 59 = .ok (.aload_n 0, 1) := by decide +kernel
theorem d_M_object_60 : decode prog_8_method_49_code 60 = .ok (.getfield 22, 3) := by decide +kernel
theorem d_M_object_63 : decode prog_8_method_49_code 63 = .ok (.iload_n 3, 1) := by decide +kernel
theorem d_M_object_64 : decode prog_8_method_49_code 64 = .ok (.iaload, 1) := by decide +kernel
theorem d_M_object_65 : decode prog_8_method_49_code 65 = .ok (.goto 23, 3) := by decide +kernel
theorem d_M_object_68 : decode prog_8_method_49_code 68 = .ok (.iload_n 2, 1) := by decide +kernel
theorem d_M_object_69 : decode prog_8_method_49_code 69 = .ok (.iconst 2, 1) := by decide +kernel
theorem d_M_object_70 : decode prog_8_method_49_code 70 = .ok (.if_icmp .ne 12, 3) := by decide +kernel
theorem d_M_object_73 : decode prog_8_method_49_code 73 = .ok (.aload_n 0, 1) := by decide +kernel
theorem d_M_object_74 : decode prog_8_method_49_code 74 = .ok (.getfield 25, 3) := by decide +kernel
theorem d_M_object_77 : decode prog_8_method_49_code 77 = .ok (.iload_n 3, 1) := by decide +kernel
theorem d_M_object_78 : decode prog_8_method_49_code 78 = .ok (.iaload, 1) := by decide +kernel
theorem d_M_object_79 : decode prog_8_method_49_code 79 = .ok (.goto 9, 3) := by decide +kernel
theorem d_M_object_82 : decode prog_8_method_49_code 82 = .ok (.aload_n 0, 1) := by decide +kernel
theorem d_M_object_83 : decode prog_8_method_49_code 83 = .ok (.getfield 28, 3) := by decide +kernel
theorem d_M_object_86 : decode prog_8_method_49_code 86 = .ok (.iload_n 3, 1) := by decide +kernel
theorem d_M_object_87 : decode prog_8_method_49_code 87 = .ok (.iaload, 1) := by decide +kernel
theorem d_M_object_88 : decode prog_8_method_49_code 88 = .ok (.ireturn, 1) := by decide +kernel
theorem d_M_line_0 : decode prog_8_method_50_code 0 = .ok (.aload_n 0, 1) := by decide +kernel
theorem d_M_line_1 : decode prog_8_method_50_code 1 = .ok (.iload_n 1, 1) := by decide +kernel
theorem d_M_line_2 : decode prog_8_method_50_code 2 = .ok (.ifCond .lt 13, 3) := by decide +kernel
theorem d_M_line_5 : decode prog_8_method_50_code 5 = .ok (.iload_n 1, 1) := by decide +kernel
theorem d_M_line_6 : decode prog_8_method_50_code 6 = .ok (.bipush 32, 2) := by decide +kernel
theorem d_M_line_8 : decode prog_8_method_50_code 8 = .ok (.if_icmp .ge 7, 3) := by decide +kernel
theorem d_M_line_11 : decode prog_8_method_50_code 11 = .ok (.iconst 0, 1) := by decide +kernel
theorem d_M_line_12 : decode prog_8_method_50_code 12 = .ok (.goto 4, 3) := by decide +kernel
theorem d_M_line_15 : decode prog_8_method_50_code 15 = .ok (.iconst 1, 1) := by decide +kernel
theorem d_M_line_16 : decode prog_8_method_50_code 16 = .ok (.putfield 69, 3) := by decide +kernel
theorem d_M_line_19 : decode prog_8_method_50_code 19 = .ok (.aload_n 0, 1) := by decide +kernel
theorem d_M_line_20 : decode prog_8_method_50_code 20 = .ok (.getfield 69, 3) := by decide +kernel
theorem d_M_line_23 : decode prog_8_method_50_code 23 = .ok (.ifCond .le 7, 3) := by decide +kernel
theorem d_M_line_26 : decode prog_8_method_50_code 26 = .ok (.iconst 0, 1) := by decide +kernel
theorem d_M_line_27 : decode prog_8_method_50_code 27 = .ok (.goto 28, 3) := by decide +kernel
theorem d_M_line_30 : decode prog_8_method_50_code 30 = .ok (.aload_n 0, 1) := by decide +kernel
theorem d_M_line_31 : decode prog_8_method_50_code 31 = .ok (.iload_n 1, 1) := by decide +kernel
theorem d_M_line_32 : decode prog_8_method_50_code 32 = .ok (.invokevirtual 75, 3) := by decide +kernel
theorem d_M_line_35 : decode prog_8_method_50_code 35 = .ok (.ifCond .eq 7, 3) := by decide +kernel
theorem d_M_line_38 : decode prog_8_method_50_code 38 = .ok (.iconst 1, 1) := by decide +kernel
theorem d_M_line_39 : decode prog_8_method_50_code 39 = .ok (.goto 16, 3) := by decide +kernel
theorem d_M_line_42 : decode prog_8_method_50_code 42 = .ok (.aload_n 0, 1) := by decide +kernel
theorem d_M_line_43 : decode prog_8_method_50_code 43 = .ok (.iload_n 1, 1) := by decide +kernel
theorem d_M_line_44 : decode prog_8_method_50_code 44 = .ok (.invokevirtual 79, 3) := by decide +kernel
theorem d_M_line_47 : decode prog_8_method_50_code 47 = .ok (.ifCond .eq 7, 3) := by decide +kernel
theorem d_M_line_50 : decode prog_8_method_50_code 50 = .ok (.iconst 2, 1) := by decide +kernel
theorem d_M_line_51 : decode prog_8_method_50_code 51 = .ok (.goto 4, 3) := by decide +kernel
theorem d_M_line_54 : decode prog_8_method_50_code 54 = .ok (.iconst 0, 1) := by decide +kernel
theorem d_M_line_55 : decode prog_8_method_50_code 55 = .ok (.ireturn, 1) := by decide +kernel
theorem d_M_objects_0 : decode prog_8_method_51_code 0 = .ok (.iconst 0, 1) := by decide +kernel
theorem d_M_objects_1 : decode prog_8_method_51_code 1 = .ok (.istore_n 2, 1) := by decide +kernel
theorem d_M_objects_2 : decode prog_8_method_51_code 2 = .ok (.iconst 0, 1) := by decide +kernel
theorem d_M_objects_3 : decode prog_8_method_51_code 3 = .ok (.istore_n 3, 1) := by decide +kernel
theorem d_M_objects_4 : decode prog_8_method_51_code 4 = .ok (.iload_n 3, 1) := by decide +kernel
theorem d_M_objects_5 : decode prog_8_method_51_code 5 = .ok (.sipush 256, 3) := by decide +kernel
theorem d_M_objects_8 : decode prog_8_method_51_code 8 = .ok (.if_icmp .ge 37, 3) := by decide +kernel
theorem d_M_objects_11 : decode prog_8_method_51_code 11 = .ok (.aload_n 0, 1) := by decide +kernel
theorem d_M_objects_12 : decode prog_8_method_51_code 12 = .ok (.getfield 13, 3) := by decide +kernel
theorem d_M_objects_15 : decode prog_8_method_51_code 15 = .ok (.iload_n 3, 1) := by decide +kernel
theorem d_M_objects_16 : decode prog_8_method_51_code 16 = .ok (.iaload, 1) := by decide +kernel
theorem d_M_objects_17 : decode prog_8_method_51_code 17 = .ok (.iconst 1, 1) := by decide +kernel
theorem d_M_objects_18 : decode prog_8_method_51_code 18 = .ok (.if_icmp .eq 13, 3) := by decide +kernel
theorem d_M_objects_21 : decode prog_8_method_51_code 21 = .ok (.aload_n 0, 1) := by decide +kernel
theorem d_M_objects_22 : decode prog_8_method_51_code 22 = .ok (.getfield 13, 3) := by decide +kernel
theorem d_M_objects_25 : decode prog_8_method_51_code 25 = .ok (.iload_n 3, 1) := by decide +kernel
theorem d_M_objects_26 : decode prog_8_method_51_code 26 = .ok (.iaload, 1) := by decide +kernel
theorem d_M_objects_27 : decode prog_8_method_51_code 27 = .ok (.iload_n 1, 1) := by decide +kernel
theorem d_M_objects_28 : decode prog_8_method_51_code 28 = .ok (.if_icmp .le 9, 3) := by decide +kernel
theorem d_M_objects_31 : decode prog_8_method_51_code 31 = .ok (.iload_n 2, 1) := by decide +kernel
theorem d_M_objects_32 : decode prog_8_method_51_code 32 = .ok (.iconst 1, 1) := by decide +kernel
theorem d_M_objects_33 : decode prog_8_method_51_code 33 = .ok (.iadd, 1) := by decide +kernel
theorem d_M_objects_34 : decode prog_8_method_51_code 34 = .ok (.goto 4, 3) := by decide +kernel
theorem d_M_objects_37 : decode prog_8_method_51_code 37 = .ok (.iload_n 2, 1) := by decide +kernel
theorem d_M_objects_38 : decode prog_8_method_51_code 38 = .ok (.istore_n 2, 1) := by decide +kernel
theorem d_M_objects_39 : decode prog_8_method_51_code 39 = .ok (.iinc 3 1, 3) := by decide +kernel
theorem d_M_objects_42 : decode prog_8_method_51_code 42 = .ok (.goto (-38), 3) := by decide +kernel
theorem d_M_objects_45 : decode prog_8_method_51_code 45 = .ok (.iload_n 2, 1) := by decide +kernel
theorem d_M_objects_46 : decode prog_8_method_51_code 46 = .ok (.ireturn, 1) := by decide +kernel
theorem d_M_figure_0 : decode prog_8_method_52_code 0 = .ok (.aload_n 0, 1) := by decide +kernel
theorem d_M_figure_1 : decode prog_8_method_52_code 1 = .ok (.iload_n 1, 1) := by decide +kernel
theorem d_M_figure_2 : decode prog_8_method_52_code 2 = .ok (.ifCond .lt 13, 3) := by decide +kernel
theorem d_M_figure_5 : decode prog_8_method_52_code 5 = .ok (.iload_n 1, 1) := by decide +kernel
theorem d_M_figure_6 : decode prog_8_method_52_code 6 = .ok (.bipush 8, 2) := by decide +kernel
theorem d_M_figure_8 : decode prog_8_method_52_code 8 = .ok (.if_icmp .gt 7, 3) := by decide +kernel
theorem d_M_figure_11 : decode prog_8_method_52_code 11 = .ok (.iconst 0, 1) := by decide +kernel
theorem d_M_figure_12 : decode prog_8_method_52_code 12 = .ok (.goto 4, 3) := by decide +kernel
theorem d_M_figure_15 : decode prog_8_method_52_code 15 = .ok (.iconst 1, 1) := by decide +kernel
theorem d_M_figure_16 : decode prog_8_method_52_code 16 = .ok (.putfield 69, 3) := by decide +kernel
theorem d_M_figure_19 : decode prog_8_method_52_code 19 = .ok (.iload_n 1, 1) := by decide +kernel
theorem d_M_figure_20 : decode prog_8_method_52_code 20 = .ok (.tableswitch 107 0 8 #[52, 58, 64, 69, 74, 79, 92, 97, 102], 52) := by decide +kernel
theorem d_M_figure_72 : decode prog_8_method_52_code 72 = .ok (.aload_n 0, 1) := by decide +kernel
theorem d_M_figure_73 : decode prog_8_method_52_code 73 = .ok (.iconst 1, 1) := by decide +kernel
theorem d_M_figure_74 : decode prog_8_method_52_code 74 = .ok (.invokevirtual 223, 3) := by decide +kernel
theorem d_M_figure_77 : decode prog_8_method_52_code 77 = .ok (.ireturn, 1) := by decide +kernel
theorem d_M_figure_78 : decode prog_8_method_52_code 78 = .ok (.aload_n 0, 1) := by decide +kernel
theorem d_M_figure_79 : decode prog_8_method_52_code 79 = .ok (.iconst 2, 1) := by decide +kernel
theorem d_M_figure_80 : decode prog_8_method_52_code 80 = .ok (.invokevirtual 223, 3) := by decide +kernel
theorem d_M_figure_83 : decode prog_8_method_52_code 83 = .ok (.ireturn, 1) := by decide +kernel
theorem d_M_figure_84 : decode prog_8_method_52_code 84 = .ok (.aload_n 0, 1) := by decide +kernel
theorem d_M_figure_85 : decode prog_8_method_52_code 85 = .ok (.getfield 118, 3) := by decide +kernel
theorem d_M_figure_88 : decode prog_8_method_52_code 88 = .ok (.ireturn, 1) := by decide +kernel
theorem d_M_figure_89 : decode prog_8_method_52_code 89 = .ok (.aload_n 0, 1) := by decide +kernel
theorem d_M_figure_90 : decode prog_8_method_52_code 90 = .ok (.getfield 153, 3) := by decide +kernel
theorem d_M_figure_93 : decode prog_8_method_52_code 93 = .ok (.ireturn, 1) := by decide +kernel
theorem d_M_figure_94 : decode prog_8_method_52_code 94 = .ok (.aload_n 0, 1) := by decide +kernel
theorem d_M_figure_95 : decode prog_8_method_52_code 95 = .ok (.getfield 196, 3) := by decide +kernel
theorem d_M_figure_98 : decode prog_8_method_52_code 98 = .ok (.ireturn, 1) := by decide +kernel
theorem d_M_figure_99 : decode prog_8_method_52_code 99 = .ok (.aload_n 0, 1) := by decide +kernel
theorem d_M_figure_100 : decode prog_8_method_52_code 100 = .ok (.getfield 143, 3) := by decide +kernel
theorem d_M_figure_103 : decode prog_8_method_52_code 103 = .ok (.ifCond .eq 7, 3) := by decide +kernel
theorem d_M_figure_106 : decode prog_8_method_52_code 106 = .ok (.iconst 1, 1) := by decide +kernel
theorem d_M_figure_107 : decode prog_8_method_52_code 107 = .ok (.goto 4, 3) := by decide +kernel
theorem d_M_figure_110 : decode prog_8_method_52_code 110 = .ok (.iconst 0, 1) := by decide +kernel
theorem d_M_figure_111 : decode prog_8_method_52_code 111 = .ok (.ireturn, 1) := by decide +kernel
theorem d_M_figure_112 : decode prog_8_method_52_code 112 = .ok (.aload_n 0, 1) := by decide +kernel
theorem d_M_figure_113 : decode prog_8_method_52_code 113 = .ok (.getfield 112, 3) := by decide +kernel
theorem d_M_figure_116 : decode prog_8_method_52_code 116 = .ok (.ireturn, 1) := by decide +kernel
theorem d_M_figure_117 : decode prog_8_method_52_code 117 = .ok (.aload_n 0, 1) := by decide +kernel
theorem d_M_figure_118 : decode prog_8_method_52_code 118 = .ok (.getfield 159, 3) := by decide +kernel
theorem d_M_figure_121 : decode prog_8_method_52_code 121 = .ok (.ireturn, 1) := by decide +kernel
theorem d_M_figure_122 : decode prog_8_method_52_code 122 = .ok (.aload_n 0, 1) := by decide +kernel
theorem d_M_figure_123 : decode prog_8_method_52_code 123 = .ok (.invokevirtual 184, 3) := by decide +kernel
theorem d_M_figure_126 : decode prog_8_method_52_code 126 = .ok (.ireturn, 1) := by decide +kernel
theorem d_M_figure_127 : decode prog_8_method_52_code 127 = .ok (.iconst 0, 1) := by decide +kernel
theorem d_M_figure_128 : decode prog_8_method_52_code 128 = .ok (.ireturn, 1) := by decide +kernel
theorem d_L_allocate_0 : decode method_3_code 0 = .ok (.aload 4, 2) := by decide +kernel
theorem d_L_allocate_2 : decode method_3_code 2 = .ok (.iconst 0, 1) := by decide +kernel
theorem d_L_allocate_3 : decode method_3_code 3 = .ok (.aload_n 0, 1) := by decide +kernel
theorem d_L_allocate_4 : decode method_3_code 4 = .ok (.iload_n 1, 1) := by decide +kernel
theorem d_L_allocate_5 : decode method_3_code 5 = .ok (.iload_n 2, 1) := by decide +kernel
theorem d_L_allocate_6 : decode method_3_code 6 = .ok (.iload_n 3, 1) := by decide +kernel
theorem d_L_allocate_7 : decode method_3_code 7 = .ok (.invokevirtual 7, 3) := by decide +kernel
theorem d_L_allocate_10 : decode method_3_code 10 = .ok (.i2l, 1) := by decide +kernel
theorem d_L_allocate_11 : decode method_3_code 11 = .ok (.lastore, 1) := by decide +kernel
theorem d_L_allocate_12 : decode method_3_code 12 = .ok (.goto 11, 3) := by decide +kernel
theorem d_L_allocate_15 : decode method_3_code 15 = .ok (.astore 5, 2) := by decide +kernel
theorem d_L_allocate_17 : decode method_3_code 17 = .ok (.iconst 1, 1) := by decide +kernel
theorem d_L_allocate_18 : decode method_3_code 18 = .ok (.ireturn, 1) := by decide +kernel
theorem d_L_allocate_19 : decode method_3_code 19 = .ok (.astore 5, 2) := by decide +kernel
theorem d_L_allocate_21 : decode method_3_code 21 = .ok (.iconst 2, 1) := by decide +kernel
theorem d_L_allocate_22 : decode method_3_code 22 = .ok (.ireturn, 1) := by decide +kernel
theorem d_L_allocate_23 : decode method_3_code 23 = .ok (.iconst 0, 1) := by decide +kernel
theorem d_L_allocate_24 : decode method_3_code 24 = .ok (.ireturn, 1) := by decide +kernel
theorem d_L_drop_0 : decode method_4_code 0 = .ok (.aload_n 0, 1) := by decide +kernel
theorem d_L_drop_1 : decode method_4_code 1 = .ok (.iload_n 1, 1) := by decide +kernel
theorem d_L_drop_2 : decode method_4_code 2 = .ok (.invokevirtual 17, 3) := by decide +kernel
theorem d_L_drop_5 : decode method_4_code 5 = .ok (.goto 6, 3) := by decide +kernel
theorem d_L_drop_8 : decode method_4_code 8 = .ok (.astore_n 2, 1) := by decide +kernel
theorem d_L_drop_9 : decode method_4_code 9 = .ok (.iconst 1, 1) := by decide +kernel
theorem d_L_drop_10 : decode method_4_code 10 = .ok (.ireturn, 1) := by decide +kernel
theorem d_L_drop_11 : decode method_4_code 11 = .ok (.iconst 0, 1) := by decide +kernel
theorem d_L_drop_12 : decode method_4_code 12 = .ok (.ireturn, 1) := by decide +kernel
theorem d_L_copy_0 : decode method_5_code 0 = .ok (.aload_n 0, 1) := by decide +kernel
theorem d_L_copy_1 : decode method_5_code 1 = .ok (.iload_n 1, 1) := by decide +kernel
theorem d_L_copy_2 : decode method_5_code 2 = .ok (.iload_n 2, 1) := by decide +kernel
theorem d_L_copy_3 : decode method_5_code 3 = .ok (.invokevirtual 21, 3) := by decide +kernel
theorem d_L_copy_6 : decode method_5_code 6 = .ok (.goto 6, 3) := by decide +kernel
theorem d_L_copy_9 : decode method_5_code 9 = .ok (.astore_n 3, 1) := by decide +kernel
theorem d_L_copy_10 : decode method_5_code 10 = .ok (.iconst 1, 1) := by decide +kernel
theorem d_L_copy_11 : decode method_5_code 11 = .ok (.ireturn, 1) := by decide +kernel
theorem d_L_copy_12 : decode method_5_code 12 = .ok (.iconst 0, 1) := by decide +kernel
theorem d_L_copy_13 : decode method_5_code 13 = .ok (.ireturn, 1) := by decide +kernel
theorem d_L_load_0 : decode method_6_code 0 = .ok (.aload 4, 2) := by decide +kernel
theorem d_L_load_2 : decode method_6_code 2 = .ok (.iconst 0, 1) := by decide +kernel
theorem d_L_load_3 : decode method_6_code 3 = .ok (.aload_n 0, 1) := by decide +kernel
theorem d_L_load_4 : decode method_6_code 4 = .ok (.iload_n 1, 1) := by decide +kernel
theorem d_L_load_5 : decode method_6_code 5 = .ok (.iload_n 2, 1) := by decide +kernel
theorem d_L_load_6 : decode method_6_code 6 = .ok (.iload_n 3, 1) := by decide +kernel
theorem d_L_load_7 : decode method_6_code 7 = .ok (.invokevirtual 25, 3) := by decide +kernel
theorem d_L_load_10 : decode method_6_code 10 = .ok (.i2l, 1) := by decide +kernel
theorem d_L_load_11 : decode method_6_code 11 = .ok (.lastore, 1) := by decide +kernel
theorem d_L_load_12 : decode method_6_code 12 = .ok (.goto 15, 3) := by decide +kernel
theorem d_L_load_15 : decode method_6_code 15 = .ok (.astore 5, 2) := by decide +kernel
theorem d_L_load_17 : decode method_6_code 17 = .ok (.iconst 1, 1) := by decide +kernel
theorem d_L_load_18 : decode method_6_code 18 = .ok (.ireturn, 1) := by decide +kernel
theorem d_L_load_19 : decode method_6_code 19 = .ok (.astore 5, 2) := by decide +kernel
theorem d_L_load_21 : decode method_6_code 21 = .ok (.iconst 2, 1) := by decide +kernel
