/-! Instructions (written by a program) -/
theorem d_M_drainOne_48 : decode prog_8_method_22_code 48 = .ok (.getfield 13, 3) := by decide +kernel
theorem d_M_drainOne_51 : decode prog_8_method_22_code 51 = .ok (.iload_n 1, 1) := by decide +kernel
theorem d_M_drainOne_52 : decode prog_8_method_22_code 52 = .ok (.iaload, 1) := by decide +kernel
theorem d_M_drainOne_53 : decode prog_8_method_22_code 53 = .ok (.iconst 2, 1) := by decide +kernel
theorem d_M_drainOne_54 : decode prog_8_method_22_code 54 = .ok (.if_icmp .ne 37, 3) := by decide +kernel
theorem d_M_drainOne_57 : decode prog_8_method_22_code 57 = .ok (.aload_n 0, 1) := by decide +kernel
theorem d_M_drainOne_58 : decode prog_8_method_22_code 58 = .ok (.getfield 25, 3) := by decide +kernel
theorem d_M_drainOne_61 : decode prog_8_method_22_code 61 = .ok (.iload_n 1, 1) := by decide +kernel
theorem d_M_drainOne_62 : decode prog_8_method_22_code 62 = .ok (.iaload, 1) := by decide +kernel
theorem d_M_drainOne_63 : decode prog_8_method_22_code 63 = .ok (.iconst 3, 1) := by decide +kernel
theorem d_M_drainOne_64 : decode prog_8_method_22_code 64 = .ok (.if_icmp .ge 27, 3) := by decide +kernel
theorem d_M_drainOne_67 : decode prog_8_method_22_code 67 = .ok (.aload_n 0, 1) := by decide +kernel
theorem d_M_drainOne_68 : decode prog_8_method_22_code 68 = .ok (.getfield 25, 3) := by decide +kernel
theorem d_M_drainOne_71 : decode prog_8_method_22_code 71 = .ok (.iload_n 1, 1) := by decide +kernel
theorem d_M_drainOne_72 : decode prog_8_method_22_code 72 = .ok (.dup2, 1) := by decide +kernel
theorem d_M_drainOne_73 : decode prog_8_method_22_code 73 = .ok (.iaload, 1) := by decide +kernel
theorem d_M_drainOne_74 : decode prog_8_method_22_code 74 = .ok (.iconst 1, 1) := by decide +kernel
theorem d_M_drainOne_75 : decode prog_8_method_22_code 75 = .ok (.isub, 1) := by decide +kernel
theorem d_M_drainOne_76 : decode prog_8_method_22_code 76 = .ok (.iastore, 1) := by decide +kernel
theorem d_M_drainOne_77 : decode prog_8_method_22_code 77 = .ok (.aload_n 0, 1) := by decide +kernel
theorem d_M_drainOne_78 : decode prog_8_method_22_code 78 = .ok (.getfield 25, 3) := by decide +kernel
theorem d_M_drainOne_81 : decode prog_8_method_22_code 81 = .ok (.iload_n 1, 1) := by decide +kernel
theorem d_M_drainOne_82 : decode prog_8_method_22_code 82 = .ok (.iaload, 1) := by decide +kernel
theorem d_M_drainOne_83 : decode prog_8_method_22_code 83 = .ok (.ifCond .ne 8, 3) := by decide +kernel
theorem d_M_drainOne_86 : decode prog_8_method_22_code 86 = .ok (.aload_n 0, 1) := by decide +kernel
theorem d_M_drainOne_87 : decode prog_8_method_22_code 87 = .ok (.iload_n 1, 1) := by decide +kernel
theorem d_M_drainOne_88 : decode prog_8_method_22_code 88 = .ok (.invokevirtual 131, 3) := by decide +kernel
theorem d_M_drainOne_91 : decode prog_8_method_22_code 91 = .ok (.return_, 1) := by decide +kernel
theorem d_M_drainAll_0 : decode prog_8_method_23_code 0 = .ok (.aload_n 0, 1) := by decide +kernel
theorem d_M_drainAll_1 : decode prog_8_method_23_code 1 = .ok (.getfield 118, 3) := by decide +kernel
theorem d_M_drainAll_4 : decode prog_8_method_23_code 4 = .ok (.ifCond .le 10, 3) := by decide +kernel
theorem d_M_drainAll_7 : decode prog_8_method_23_code 7 = .ok (.aload_n 0, 1) := by decide +kernel
theorem d_M_drainAll_8 : decode prog_8_method_23_code 8 = .ok (.invokevirtual 134, 3) := by decide +kernel
theorem d_M_drainAll_11 : decode prog_8_method_23_code 11 = .ok (.goto (-11), 3) := by decide +kernel
theorem d_M_drainAll_14 : decode prog_8_method_23_code 14 = .ok (.return_, 1) := by decide +kernel
theorem d_M_step_0 : decode prog_8_method_24_code 0 = .ok (.iconst 0, 1) := by decide +kernel
theorem d_M_step_1 : decode prog_8_method_24_code 1 = .ok (.istore_n 1, 1) := by decide +kernel
theorem d_M_step_2 : decode prog_8_method_24_code 2 = .ok (.aload_n 0, 1) := by decide +kernel
theorem d_M_step_3 : decode prog_8_method_24_code 3 = .ok (.iload_n 1, 1) := by decide +kernel
theorem d_M_step_4 : decode prog_8_method_24_code 4 = .ok (.invokevirtual 137, 3) := by decide +kernel
theorem d_M_step_7 : decode prog_8_method_24_code 7 = .ok (.ifCond .lt 31, 3) := by decide +kernel
theorem d_M_step_10 : decode prog_8_method_24_code 10 = .ok (.aload_n 0, 1) := by decide +kernel
theorem d_M_step_11 : decode prog_8_method_24_code 11 = .ok (.getfield 13, 3) := by decide +kernel
theorem d_M_step_14 : decode prog_8_method_24_code 14 = .ok (.aload_n 0, 1) := by decide +kernel
theorem d_M_step_15 : decode prog_8_method_24_code 15 = .ok (.iload_n 1, 1) := by decide +kernel
theorem d_M_step_16 : decode prog_8_method_24_code 16 = .ok (.invokevirtual 137, 3) := by decide +kernel
theorem d_M_step_19 : decode prog_8_method_24_code 19 = .ok (.iaload, 1) := by decide +kernel
theorem d_M_step_20 : decode prog_8_method_24_code 20 = .ok (.iconst 2, 1) := by decide +kernel
theorem d_M_step_21 : decode prog_8_method_24_code 21 = .ok (.if_icmp .ne 17, 3) := by decide +kernel
theorem d_M_step_24 : decode prog_8_method_24_code 24 = .ok (.aload_n 0, 1) := by decide +kernel
theorem d_M_step_25 : decode prog_8_method_24_code 25 = .ok (.getfield 28, 3) := by decide +kernel
theorem d_M_step_28 : decode prog_8_method_24_code 28 = .ok (.aload_n 0, 1) := by decide +kernel
theorem d_M_step_29 : decode prog_8_method_24_code 29 = .ok (.iload_n 1, 1) := by decide +kernel
theorem d_M_step_30 : decode prog_8_method_24_code 30 = .ok (.invokevirtual 137, 3) := by decide +kernel
theorem d_M_step_33 : decode prog_8_method_24_code 33 = .ok (.iaload, 1) := by decide +kernel
theorem d_M_step_34 : decode prog_8_method_24_code 34 = .ok (.iconst 1, 1) := by decide +kernel
theorem d_M_step_35 : decode prog_8_method_24_code 35 = .ok (.if_icmp .eq 9, 3) := by decide +kernel
theorem d_M_step_38 : decode prog_8_method_24_code 38 = .ok (.iinc 1 1, 3) := by decide +kernel
theorem d_M_step_41 : decode prog_8_method_24_code 41 = .ok (.goto (-39), 3) := by decide +kernel
theorem d_M_step_44 : decode prog_8_method_24_code 44 = .ok (.aload_n 0, 1) := by decide +kernel
theorem d_M_step_45 : decode prog_8_method_24_code 45 = .ok (.iload_n 1, 1) := by decide +kernel
theorem d_M_step_46 : decode prog_8_method_24_code 46 = .ok (.invokevirtual 137, 3) := by decide +kernel
theorem d_M_step_49 : decode prog_8_method_24_code 49 = .ok (.istore_n 2, 1) := by decide +kernel
theorem d_M_step_50 : decode prog_8_method_24_code 50 = .ok (.aload_n 0, 1) := by decide +kernel
theorem d_M_step_51 : decode prog_8_method_24_code 51 = .ok (.getfield 28, 3) := by decide +kernel
theorem d_M_step_54 : decode prog_8_method_24_code 54 = .ok (.iload_n 2, 1) := by decide +kernel
theorem d_M_step_55 : decode prog_8_method_24_code 55 = .ok (.iconst 2, 1) := by decide +kernel
theorem d_M_step_56 : decode prog_8_method_24_code 56 = .ok (.iastore, 1) := by decide +kernel
theorem d_M_step_57 : decode prog_8_method_24_code 57 = .ok (.iconst 0, 1) := by decide +kernel
theorem d_M_step_58 : decode prog_8_method_24_code 58 = .ok (.istore_n 3, 1) := by decide +kernel
theorem d_M_step_59 : decode prog_8_method_24_code 59 = .ok (.iload_n 3, 1) := by decide +kernel
theorem d_M_step_60 : decode prog_8_method_24_code 60 = .ok (.aload_n 0, 1) := by decide +kernel
theorem d_M_step_61 : decode prog_8_method_24_code 61 = .ok (.getfield 19, 3) := by decide +kernel
theorem d_M_step_64 : decode prog_8_method_24_code 64 = .ok (.iload_n 2, 1) := by decide +kernel
theorem d_M_step_65 : decode prog_8_method_24_code 65 = .ok (.iaload, 1) := by decide +kernel
theorem d_M_step_66 : decode prog_8_method_24_code 66 = .ok (.if_icmp .ge 39, 3) := by decide +kernel
theorem d_M_step_69 : decode prog_8_method_24_code 69 = .ok (.aload_n 0, 1) := by decide +kernel
theorem d_M_step_70 : decode prog_8_method_24_code 70 = .ok (.getfield 31, 3) := by decide +kernel
theorem d_M_step_73 : decode prog_8_method_24_code 73 = .ok (.bipush 12, 2) := by decide +kernel
theorem d_M_step_75 : decode prog_8_method_24_code 75 = .ok (.iload_n 2, 1) := by decide +kernel
theorem d_M_step_76 : decode prog_8_method_24_code 76 = .ok (.imul, 1) := by decide +kernel
theorem d_M_step_77 : decode prog_8_method_24_code 77 = .ok (.iload_n 3, 1) := by decide +kernel
theorem d_M_step_78 : decode prog_8_method_24_code 78 = .ok (.iadd, 1) := by decide +kernel
theorem d_M_step_79 : decode prog_8_method_24_code 79 = .ok (.iaload, 1) := by decide +kernel
theorem d_M_step_80 : decode prog_8_method_24_code 80 = .ok (.istore 4, 2) := by decide +kernel
theorem d_M_step_82 : decode prog_8_method_24_code 82 = .ok (.aload_n 0, 1) := by decide +kernel
theorem d_M_step_83 : decode prog_8_method_24_code 83 = .ok (.iload 4, 2) := by decide +kernel
theorem d_M_step_85 : decode prog_8_method_24_code 85 = .ok (.invokevirtual 125, 3) := by decide +kernel
theorem d_M_step_88 : decode prog_8_method_24_code 88 = .ok (.ifCond .eq 11, 3) := by decide +kernel
theorem d_M_step_91 : decode prog_8_method_24_code 91 = .ok (.aload_n 0, 1) := by decide +kernel
theorem d_M_step_92 : decode prog_8_method_24_code 92 = .ok (.getfield 28, 3) := by decide +kernel
theorem d_M_step_95 : decode prog_8_method_24_code 95 = .ok (.iload 4, 2) := by decide +kernel
theorem d_M_step_97 : decode prog_8_method_24_code 97 = .ok (.iconst 1, 1) := by decide +kernel
theorem d_M_step_98 : decode prog_8_method_24_code 98 = .ok (.iastore, 1) := by decide +kernel
theorem d_M_step_99 : decode prog_8_method_24_code 99 = .ok (.iinc 3 1, 3) := by decide +kernel
theorem d_M_step_102 : decode prog_8_method_24_code 102 = .ok (.goto (-43), 3) := by decide +kernel
theorem d_M_step_105 : decode prog_8_method_24_code 105 = .ok (.return_, 1) := by decide +kernel
theorem d_M_addSlot_0 : decode prog_8_method_25_code 0 = .ok (.aload_n 0, 1) := by decide +kernel
theorem d_M_addSlot_1 : decode prog_8_method_25_code 1 = .ok (.getfield 66, 3) := by decide +kernel
theorem d_M_addSlot_4 : decode prog_8_method_25_code 4 = .ok (.aload_n 0, 1) := by decide +kernel
theorem d_M_addSlot_5 : decode prog_8_method_25_code 5 = .ok (.getfield 140, 3) := by decide +kernel
theorem d_M_addSlot_8 : decode prog_8_method_25_code 8 = .ok (.iload_n 1, 1) := by decide +kernel
theorem d_M_addSlot_9 : decode prog_8_method_25_code 9 = .ok (.iastore, 1) := by decide +kernel
theorem d_M_addSlot_10 : decode prog_8_method_25_code 10 = .ok (.aload_n 0, 1) := by decide +kernel
theorem d_M_addSlot_11 : decode prog_8_method_25_code 11 = .ok (.dup, 1) := by decide +kernel
theorem d_M_addSlot_12 : decode prog_8_method_25_code 12 = .ok (.getfield 140, 3) := by decide +kernel
theorem d_M_addSlot_15 : decode prog_8_method_25_code 15 = .ok (.iconst 1, 1) := by decide +kernel
theorem d_M_addSlot_16 : decode prog_8_method_25_code 16 = .ok (.iadd, 1) := by decide +kernel
theorem d_M_addSlot_17 : decode prog_8_method_25_code 17 = .ok (.putfield 140, 3) := by decide +kernel
theorem d_M_addSlot_20 : decode prog_8_method_25_code 20 = .ok (.return_, 1) := by decide +kernel
theorem d_M_survive_0 : decode prog_8_method_26_code 0 = .ok (.aload_n 0, 1) := by decide +kernel
theorem d_M_survive_1 : decode prog_8_method_26_code 1 = .ok (.getfield 13, 3) := by decide +kernel
theorem d_M_survive_4 : decode prog_8_method_26_code 4 = .ok (.iload_n 1, 1) := by decide +kernel
theorem d_M_survive_5 : decode prog_8_method_26_code 5 = .ok (.iconst 2, 1) := by decide +kernel
theorem d_M_survive_6 : decode prog_8_method_26_code 6 = .ok (.iastore, 1) := by decide +kernel
theorem d_M_survive_7 : decode prog_8_method_26_code 7 = .ok (.aload_n 0, 1) := by decide +kernel
theorem d_M_survive_8 : decode prog_8_method_26_code 8 = .ok (.getfield 25, 3) := by decide +kernel
theorem d_M_survive_11 : decode prog_8_method_26_code 11 = .ok (.iload_n 1, 1) := by decide +kernel
theorem d_M_survive_12 : decode prog_8_method_26_code 12 = .ok (.iconst 1, 1) := by decide +kernel
theorem d_M_survive_13 : decode prog_8_method_26_code 13 = .ok (.iastore, 1) := by decide +kernel
theorem d_M_survive_14 : decode prog_8_method_26_code 14 = .ok (.aload_n 0, 1) := by decide +kernel
theorem d_M_survive_15 : decode prog_8_method_26_code 15 = .ok (.getfield 28, 3) := by decide +kernel
theorem d_M_survive_18 : decode prog_8_method_26_code 18 = .ok (.iload_n 1, 1) := by decide +kernel
theorem d_M_survive_19 : decode prog_8_method_26_code 19 = .ok (.aload_n 0, 1) := by decide +kernel
theorem d_M_survive_20 : decode prog_8_method_26_code 20 = .ok (.getfield 143, 3) := by decide +kernel
theorem d_M_survive_23 : decode prog_8_method_26_code 23 = .ok (.ifCond .eq 7, 3) := by decide +kernel
theorem d_M_survive_26 : decode prog_8_method_26_code 26 = .ok (.iconst 2, 1) := by decide +kernel
theorem d_M_survive_27 : decode prog_8_method_26_code 27 = .ok (.goto 4, 3) := by decide +kernel
theorem d_M_survive_30 : decode prog_8_method_26_code 30 = .ok (.iconst 0, 1) := by decide +kernel
theorem d_M_survive_31 : decode prog_8_method_26_code 31 = .ok (.iastore, 1) := by decide +kernel
theorem d_M_survive_32 : decode prog_8_method_26_code 32 = .ok (.aload_n 0, 1) := by decide +kernel
theorem d_M_survive_33 : decode prog_8_method_26_code 33 = .ok (.iload_n 1, 1) := by decide +kernel
theorem d_M_survive_34 : decode prog_8_method_26_code 34 = .ok (.invokevirtual 147, 3) := by decide +kernel
theorem d_M_survive_37 : decode prog_8_method_26_code 37 = .ok (.iconst 0, 1) := by decide +kernel
theorem d_M_survive_38 : decode prog_8_method_26_code 38 = .ok (.istore_n 2, 1) := by decide +kernel
theorem d_M_survive_39 : decode prog_8_method_26_code 39 = .ok (.iload_n 2, 1) := by decide +kernel
theorem d_M_survive_40 : decode prog_8_method_26_code 40 = .ok (.aload_n 0, 1) := by decide +kernel
theorem d_M_survive_41 : decode prog_8_method_26_code 41 = .ok (.getfield 19, 3) := by decide +kernel
theorem d_M_survive_44 : decode prog_8_method_26_code 44 = .ok (.iload_n 1, 1) := by decide +kernel
theorem d_M_survive_45 : decode prog_8_method_26_code 45 = .ok (.iaload, 1) := by decide +kernel
theorem d_M_survive_46 : decode prog_8_method_26_code 46 = .ok (.if_icmp .ge 22, 3) := by decide +kernel
theorem d_M_survive_49 : decode prog_8_method_26_code 49 = .ok (.aload_n 0, 1) := by decide +kernel
theorem d_M_survive_50 : decode prog_8_method_26_code 50 = .ok (.bipush 6, 2) := by decide +kernel
theorem d_M_survive_52 : decode prog_8_method_26_code 52 = .ok (.bipush 12, 2) := by decide +kernel
theorem d_M_survive_54 : decode prog_8_method_26_code 54 = .ok (.iload_n 1, 1) := by decide +kernel
theorem d_M_survive_55 : decode prog_8_method_26_code 55 = .ok (.imul, 1) := by decide +kernel
theorem d_M_survive_56 : decode prog_8_method_26_code 56 = .ok (.iadd, 1) := by decide +kernel
theorem d_M_survive_57 : decode prog_8_method_26_code 57 = .ok (.iload_n 2, 1) := by decide +kernel
theorem d_M_survive_58 : decode prog_8_method_26_code 58 = .ok (.iadd, 1) := by decide +kernel
theorem d_M_survive_59 : decode prog_8_method_26_code 59 = .ok (.invokevirtual 150, 3) := by decide +kernel
theorem d_M_survive_62 : decode prog_8_method_26_code 62 = .ok (.iinc 2 1, 3) := by decide +kernel
theorem d_M_survive_65 : decode prog_8_method_26_code 65 = .ok (.goto (-26), 3) := by decide +kernel
theorem d_M_survive_68 : decode prog_8_method_26_code 68 = .ok (.return_, 1) := by decide +kernel
theorem d_M_countSlots_0 : decode prog_8_method_27_code 0 = .ok (.aload_n 0, 1) := by decide +kernel
theorem d_M_countSlots_1 : decode prog_8_method_27_code 1 = .ok (.iconst 0, 1) := by decide +kernel
theorem d_M_countSlots_2 : decode prog_8_method_27_code 2 = .ok (.putfield 140, 3) := by decide +kernel
theorem d_M_countSlots_5 : decode prog_8_method_27_code 5 = .ok (.iconst 0, 1) := by decide +kernel
theorem d_M_countSlots_6 : decode prog_8_method_27_code 6 = .ok (.istore_n 1, 1) := by decide +kernel
theorem d_M_countSlots_7 : decode prog_8_method_27_code 7 = .ok (.iload_n 1, 1) := by decide +kernel
theorem d_M_countSlots_8 : decode prog_8_method_27_code 8 = .ok (.bipush 6, 2) := by decide +kernel
theorem d_M_countSlots_10 : decode prog_8_method_27_code 10 = .ok (.if_icmp .ge 14, 3) := by decide +kernel
theorem d_M_countSlots_13 : decode prog_8_method_27_code 13 = .ok (.aload_n 0, 1) := by decide +kernel
theorem d_M_countSlots_14 : decode prog_8_method_27_code 14 = .ok (.iload_n 1, 1) := by decide +kernel
theorem d_M_countSlots_15 : decode prog_8_method_27_code 15 = .ok (.invokevirtual 150, 3) := by decide +kernel
theorem d_M_countSlots_18 : decode prog_8_method_27_code 18 = .ok (.iinc 1 1, 3) := by decide +kernel
theorem d_M_countSlots_21 : decode prog_8_method_27_code 21 = .ok (.goto (-14), 3) := by decide +kernel
theorem d_M_countSlots_24 : decode prog_8_method_27_code 24 = .ok (.iconst 0, 1) := by decide +kernel
theorem d_M_countSlots_25 : decode prog_8_method_27_code 25 = .ok (.istore_n 1, 1) := by decide +kernel
theorem d_M_countSlots_26 : decode prog_8_method_27_code 26 = .ok (.iload_n 1, 1) := by decide +kernel
theorem d_M_countSlots_27 : decode prog_8_method_27_code 27 = .ok (.aload_n 0, 1) := by decide +kernel
theorem d_M_countSlots_28 : decode prog_8_method_27_code 28 = .ok (.getfield 153, 3) := by decide +kernel
theorem d_M_countSlots_31 : decode prog_8_method_27_code 31 = .ok (.if_icmp .ge 22, 3) := by decide +kernel
theorem d_M_countSlots_34 : decode prog_8_method_27_code 34 = .ok (.aload_n 0, 1) := by decide +kernel
theorem d_M_countSlots_35 : decode prog_8_method_27_code 35 = .ok (.bipush 6, 2) := by decide +kernel
theorem d_M_countSlots_37 : decode prog_8_method_27_code 37 = .ok (.aload_n 0, 1) := by decide +kernel
theorem d_M_countSlots_38 : decode prog_8_method_27_code 38 = .ok (.getfield 60, 3) := by decide +kernel
theorem d_M_countSlots_41 : decode prog_8_method_27_code 41 = .ok (.iload_n 1, 1) := by decide +kernel
theorem d_M_countSlots_42 : decode prog_8_method_27_code 42 = .ok (.iaload, 1) := by decide +kernel
theorem d_M_countSlots_43 : decode prog_8_method_27_code 43 = .ok (.iadd, 1) := by decide +kernel
theorem d_M_countSlots_44 : decode prog_8_method_27_code 44 = .ok (.invokevirtual 150, 3) := by decide +kernel
theorem d_M_countSlots_47 : decode prog_8_method_27_code 47 = .ok (.iinc 1 1, 3) := by decide +kernel
theorem d_M_countSlots_50 : decode prog_8_method_27_code 50 = .ok (.goto (-24), 3) := by decide +kernel
theorem d_M_countSlots_53 : decode prog_8_method_27_code 53 = .ok (.iconst 0, 1) := by decide +kernel
theorem d_M_countSlots_54 : decode prog_8_method_27_code 54 = .ok (.istore_n 1, 1) := by decide +kernel
theorem d_M_countSlots_55 : decode prog_8_method_27_code 55 = .ok (.iconst 0, 1) := by decide +kernel
theorem d_M_countSlots_56 : decode prog_8_method_27_code 56 = .ok (.istore_n 2, 1) := by decide +kernel
theorem d_M_countSlots_57 : decode prog_8_method_27_code 57 = .ok (.iload_n 2, 1) := by decide +kernel
theorem d_M_countSlots_58 : decode prog_8_method_27_code 58 = .ok (.aload_n 0, 1) := by decide +kernel
theorem d_M_countSlots_59 : decode prog_8_method_27_code 59 = .ok (.getfield 140, 3) := by decide +kernel
theorem d_M_countSlots_62 : decode prog_8_method_27_code 62 = .ok (.if_icmp .ge 116, 3) := by decide +kernel
theorem d_M_countSlots_65 : decode prog_8_method_27_code 65 = .ok (.aload_n 0, 1) := by decide +kernel
theorem d_M_countSlots_66 : decode prog_8_method_27_code 66 = .ok (.getfield 66, 3) := by decide +kernel
theorem d_M_countSlots_69 : decode prog_8_method_27_code 69 = .ok (.iload_n 2, 1) := by decide +kernel
theorem d_M_countSlots_70 : decode prog_8_method_27_code 70 = .ok (.iaload, 1) := by decide +kernel
theorem d_M_countSlots_71 : decode prog_8_method_27_code 71 = .ok (.bipush 6, 2) := by decide +kernel
theorem d_M_countSlots_73 : decode prog_8_method_27_code 73 = .ok (.if_icmp .ge 17, 3) := by decide +kernel
theorem d_M_countSlots_76 : decode prog_8_method_27_code 76 = .ok (.aload_n 0, 1) := by decide +kernel
theorem d_M_countSlots_77 : decode prog_8_method_27_code 77 = .ok (.getfield 38, 3) := by decide +kernel
theorem d_M_countSlots_80 : decode prog_8_method_27_code 80 = .ok (.aload_n 0, 1) := by decide +kernel
theorem d_M_countSlots_81 : decode prog_8_method_27_code 81 = .ok (.getfield 66, 3) := by decide +kernel
theorem d_M_countSlots_84 : decode prog_8_method_27_code 84 = .ok (.iload_n 2, 1) := by decide +kernel
theorem d_M_countSlots_85 : decode prog_8_method_27_code 85 = .ok (.iaload, 1) := by decide +kernel
theorem d_M_countSlots_86 : decode prog_8_method_27_code 86 = .ok (.iaload, 1) := by decide +kernel
theorem d_M_countSlots_87 : decode prog_8_method_27_code 87 = .ok (.goto 17, 3) := by decide +kernel
theorem d_M_countSlots_90 : decode prog_8_method_27_code 90 = .ok (.aload_n 0, 1) := by decide +kernel
theorem d_M_countSlots_91 : decode prog_8_method_27_code 91 = .ok (.getfield 31, 3) := by decide +kernel
theorem d_M_countSlots_94 : decode prog_8_method_27_code 94 = .ok (.aload_n 0, 1) := by decide +kernel
theorem d_M_countSlots_95 : decode prog_8_method_27_code 95 = .ok (.getfield 66, 3) := by decide +kernel
theorem d_M_countSlots_98 : decode prog_8_method_27_code 98 = .ok (.iload_n 2, 1) := by decide +kernel
theorem d_M_countSlots_99 : decode prog_8_method_27_code 99 = .ok (.iaload, 1) := by decide +kernel
theorem d_M_countSlots_100 : decode prog_8_method_27_code 100 = .ok (.bipush 6, 2) := by decide +kernel
theorem d_M_countSlots_102 : decode prog_8_method_27_code 102 = .ok (.isub, 1) := by decide +kernel
theorem d_M_countSlots_103 : decode prog_8_method_27_code 103 = .ok (.iaload, 1) := by decide +kernel
theorem d_M_countSlots_104 : decode prog_8_method_27_code 104 = .ok (.istore_n 3, 1) := by decide +kernel
theorem d_M_countSlots_105 : decode prog_8_method_27_code 105 = .ok (.iload_n 3, 1) := by decide +kernel
theorem d_M_countSlots_106 : decode prog_8_method_27_code 106 = .ok (.ifCond .lt 44, 3) := by decide +kernel
theorem d_M_countSlots_109 : decode prog_8_method_27_code 109 = .ok (.aload_n 0, 1) := by decide +kernel
theorem d_M_countSlots_110 : decode prog_8_method_27_code 110 = .ok (.getfield 13, 3) := by decide +kernel
theorem d_M_countSlots_113 : decode prog_8_method_27_code 113 = .ok (.iload_n 3, 1) := by decide +kernel
theorem d_M_countSlots_114 : decode prog_8_method_27_code 114 = .ok (.iaload, 1) := by decide +kernel
theorem d_M_countSlots_115 : decode prog_8_method_27_code 115 = .ok (.iconst 2, 1) := by decide +kernel
theorem d_M_countSlots_116 : decode prog_8_method_27_code 116 = .ok (.if_icmp .ne 34, 3) := by decide +kernel
theorem d_M_countSlots_119 : decode prog_8_method_27_code 119 = .ok (.aload_n 0, 1) := by decide +kernel
theorem d_M_countSlots_120 : decode prog_8_method_27_code 120 = .ok (.getfield 25, 3) := by decide +kernel
theorem d_M_countSlots_123 : decode prog_8_method_27_code 123 = .ok (.iload_n 3, 1) := by decide +kernel
theorem d_M_countSlots_124 : decode prog_8_method_27_code 124 = .ok (.aload_n 0, 1) := by decide +kernel
theorem d_M_countSlots_125 : decode prog_8_method_27_code 125 = .ok (.getfield 25, 3) := by decide +kernel
theorem d_M_countSlots_128 : decode prog_8_method_27_code 128 = .ok (.iload_n 3, 1) := by decide +kernel
theorem d_M_countSlots_129 : decode prog_8_method_27_code 129 = .ok (.iaload, 1) := by decide +kernel
theorem d_M_countSlots_130 : decode prog_8_method_27_code 130 = .ok (.iconst 3, 1) := by decide +kernel
theorem d_M_countSlots_131 : decode prog_8_method_27_code 131 = .ok (.if_icmp .ge 14, 3) := by decide +kernel
theorem d_M_countSlots_134 : decode prog_8_method_27_code 134 = .ok (.aload_n 0, 1) := by decide +kernel
theorem d_M_countSlots_135 : decode prog_8_method_27_code 135 = .ok (.getfield 25, 3) := by decide +kernel
theorem d_M_countSlots_138 : decode prog_8_method_27_code 138 = .ok (.iload_n 3, 1) := by decide +kernel
theorem d_M_countSlots_139 : decode prog_8_method_27_code 139 = .ok (.iaload, 1) := by decide +kernel
theorem d_M_countSlots_140 : decode prog_8_method_27_code 140 = .ok (.iconst 1, 1) := by decide +kernel
theorem d_M_countSlots_141 : decode prog_8_method_27_code 141 = .ok (.iadd, 1) := by decide +kernel
theorem d_M_countSlots_142 : decode prog_8_method_27_code 142 = .ok (.goto 4, 3) := by decide +kernel
theorem d_M_countSlots_145 : decode prog_8_method_27_code 145 = .ok (.iconst 3, 1) := by decide +kernel
theorem d_M_countSlots_146 : decode prog_8_method_27_code 146 = .ok (.iastore, 1) := by decide +kernel
theorem d_M_countSlots_147 : decode prog_8_method_27_code 147 = .ok (.goto 25, 3) := by decide +kernel
theorem d_M_countSlots_150 : decode prog_8_method_27_code 150 = .ok (.iload_n 3, 1) := by decide +kernel
theorem d_M_countSlots_151 : decode prog_8_method_27_code 151 = .ok (.ifCond .lt 21, 3) := by decide +kernel
theorem d_M_countSlots_154 : decode prog_8_method_27_code 154 = .ok (.aload_n 0, 1) := by decide +kernel
theorem d_M_countSlots_155 : decode prog_8_method_27_code 155 = .ok (.getfield 13, 3) := by decide +kernel
theorem d_M_countSlots_158 : decode prog_8_method_27_code 158 = .ok (.iload_n 3, 1) := by decide +kernel
theorem d_M_countSlots_159 : decode prog_8_method_27_code 159 = .ok (.iaload, 1) := by decide +kernel
theorem d_M_countSlots_160 : decode prog_8_method_27_code 160 = .ok (.iconst 1, 1) := by decide +kernel
theorem d_M_countSlots_161 : decode prog_8_method_27_code 161 = .ok (.if_icmp .ne 11, 3) := by decide +kernel
theorem d_M_countSlots_164 : decode prog_8_method_27_code 164 = .ok (.aload_n 0, 1) := by decide +kernel
theorem d_M_countSlots_165 : decode prog_8_method_27_code 165 = .ok (.iload_n 3, 1) := by decide +kernel
theorem d_M_countSlots_166 : decode prog_8_method_27_code 166 = .ok (.invokevirtual 156, 3) := by decide +kernel
theorem d_M_countSlots_169 : decode prog_8_method_27_code 169 = .ok (.iinc 1 1, 3) := by decide +kernel
theorem d_M_countSlots_172 : decode prog_8_method_27_code 172 = .ok (.iinc 2 1, 3) := by decide +kernel
theorem d_M_countSlots_175 : decode prog_8_method_27_code 175 = .ok (.goto (-118), 3) := by decide +kernel
theorem d_M_countSlots_178 : decode prog_8_method_27_code 178 = .ok (.iload_n 1, 1) := by decide +kernel
theorem d_M_countSlots_179 : decode prog_8_method_27_code 179 = .ok (.ireturn, 1) := by decide +kernel
theorem d_M_endStep_0 : decode prog_8_method_28_code 0 = .ok (.iconst 0, 1) := by decide +kernel
theorem d_M_endStep_1 : decode prog_8_method_28_code 1 = .ok (.istore_n 1, 1) := by decide +kernel
theorem d_M_endStep_2 : decode prog_8_method_28_code 2 = .ok (.iload_n 1, 1) := by decide +kernel
theorem d_M_endStep_3 : decode prog_8_method_28_code 3 = .ok (.bipush 32, 2) := by decide +kernel
theorem d_M_endStep_5 : decode prog_8_method_28_code 5 = .ok (.if_icmp .ge 16, 3) := by decide +kernel
theorem d_M_endStep_8 : decode prog_8_method_28_code 8 = .ok (.aload_n 0, 1) := by decide +kernel
theorem d_M_endStep_9 : decode prog_8_method_28_code 9 = .ok (.getfield 51, 3) := by decide +kernel
theorem d_M_endStep_12 : decode prog_8_method_28_code 12 = .ok (.iload_n 1, 1) := by decide +kernel
theorem d_M_endStep_13 : decode prog_8_method_28_code 13 = .ok (.iconst 0, 1) := by decide +kernel
theorem d_M_endStep_14 : decode prog_8_method_28_code 14 = .ok (.bastore, 1) := by decide +kernel
theorem d_M_endStep_15 : decode prog_8_method_28_code 15 = .ok (.iinc 1 1, 3) := by decide +kernel
theorem d_M_endStep_18 : decode prog_8_method_28_code 18 = .ok (.goto (-16), 3) := by decide +kernel
theorem d_M_endStep_21 : decode prog_8_method_28_code 21 = .ok (.return_, 1) := by decide +kernel
theorem d_M_settle_0 : decode prog_8_method_29_code 0 = .ok (.iconst 0, 1) := by decide +kernel
theorem d_M_settle_1 : decode prog_8_method_29_code 1 = .ok (.istore_n 1, 1) := by decide +kernel
theorem d_M_settle_2 : decode prog_8_method_29_code 2 = .ok (.iload_n 1, 1) := by decide +kernel
theorem d_M_settle_3 : decode prog_8_method_29_code 3 = .ok (.sipush 256, 3) := by decide +kernel
theorem d_M_settle_6 : decode prog_8_method_29_code 6 = .ok (.if_icmp .ge 24, 3) := by decide +kernel
theorem d_M_settle_9 : decode prog_8_method_29_code 9 = .ok (.aload_n 0, 1) := by decide +kernel
theorem d_M_settle_10 : decode prog_8_method_29_code 10 = .ok (.getfield 13, 3) := by decide +kernel
theorem d_M_settle_13 : decode prog_8_method_29_code 13 = .ok (.iload_n 1, 1) := by decide +kernel
theorem d_M_settle_14 : decode prog_8_method_29_code 14 = .ok (.iaload, 1) := by decide +kernel
theorem d_M_settle_15 : decode prog_8_method_29_code 15 = .ok (.iconst 1, 1) := by decide +kernel
theorem d_M_settle_16 : decode prog_8_method_29_code 16 = .ok (.if_icmp .ne 8, 3) := by decide +kernel
theorem d_M_settle_19 : decode prog_8_method_29_code 19 = .ok (.aload_n 0, 1) := by decide +kernel
theorem d_M_settle_20 : decode prog_8_method_29_code 20 = .ok (.iload_n 1, 1) := by decide +kernel
theorem d_M_settle_21 : decode prog_8_method_29_code 21 = .ok (.invokevirtual 128, 3) := by decide +kernel
theorem d_M_settle_24 : decode prog_8_method_29_code 24 = .ok (.iinc 1 1, 3) := by decide +kernel
theorem d_M_settle_27 : decode prog_8_method_29_code 27 = .ok (.goto (-25), 3) := by decide +kernel
theorem d_M_settle_30 : decode prog_8_method_29_code 30 = .ok (.iconst 0, 1) := by decide +kernel
theorem d_M_settle_31 : decode prog_8_method_29_code 31 = .ok (.istore_n 1, 1) := by decide +kernel
theorem d_M_settle_32 : decode prog_8_method_29_code 32 = .ok (.iload_n 1, 1) := by decide +kernel
theorem d_M_settle_33 : decode prog_8_method_29_code 33 = .ok (.bipush 6, 2) := by decide +kernel
theorem d_M_settle_35 : decode prog_8_method_29_code 35 = .ok (.if_icmp .ge 19, 3) := by decide +kernel
theorem d_M_settle_38 : decode prog_8_method_29_code 38 = .ok (.aload_n 0, 1) := by decide +kernel
theorem d_M_settle_39 : decode prog_8_method_29_code 39 = .ok (.aload_n 0, 1) := by decide +kernel
theorem d_M_settle_40 : decode prog_8_method_29_code 40 = .ok (.getfield 41, 3) := by decide +kernel
theorem d_M_settle_43 : decode prog_8_method_29_code 43 = .ok (.iload_n 1, 1) := by decide +kernel
theorem d_M_settle_44 : decode prog_8_method_29_code 44 = .ok (.iaload, 1) := by decide +kernel
theorem d_M_settle_45 : decode prog_8_method_29_code 45 = .ok (.invokevirtual 121, 3) := by decide +kernel
theorem d_M_settle_48 : decode prog_8_method_29_code 48 = .ok (.iinc 1 1, 3) := by decide +kernel
theorem d_M_settle_51 : decode prog_8_method_29_code 51 = .ok (.goto (-19), 3) := by decide +kernel
theorem d_M_settle_54 : decode prog_8_method_29_code 54 = .ok (.iconst 0, 1) := by decide +kernel
theorem d_M_settle_55 : decode prog_8_method_29_code 55 = .ok (.istore_n 1, 1) := by decide +kernel
theorem d_M_settle_56 : decode prog_8_method_29_code 56 = .ok (.iload_n 1, 1) := by decide +kernel
theorem d_M_settle_57 : decode prog_8_method_29_code 57 = .ok (.aload_n 0, 1) := by decide +kernel
theorem d_M_settle_58 : decode prog_8_method_29_code 58 = .ok (.getfield 153, 3) := by decide +kernel
theorem d_M_settle_61 : decode prog_8_method_29_code 61 = .ok (.if_icmp .ge 63, 3) := by decide +kernel
theorem d_M_settle_64 : decode prog_8_method_29_code 64 = .ok (.aload_n 0, 1) := by decide +kernel
theorem d_M_settle_65 : decode prog_8_method_29_code 65 = .ok (.aload_n 0, 1) := by decide +kernel
theorem d_M_settle_66 : decode prog_8_method_29_code 66 = .ok (.getfield 63, 3) := by decide +kernel
theorem d_M_settle_69 : decode prog_8_method_29_code 69 = .ok (.iload_n 1, 1) := by decide +kernel
theorem d_M_settle_70 : decode prog_8_method_29_code 70 = .ok (.iaload, 1) := by decide +kernel
theorem d_M_settle_71 : decode prog_8_method_29_code 71 = .ok (.invokevirtual 121, 3) := by decide +kernel
theorem d_M_settle_74 : decode prog_8_method_29_code 74 = .ok (.aload_n 0, 1) := by decide +kernel
theorem d_M_settle_75 : decode prog_8_method_29_code 75 = .ok (.getfield 143, 3) := by decide +kernel
theorem d_M_settle_78 : decode prog_8_method_29_code 78 = .ok (.ifCond .eq 28, 3) := by decide +kernel
theorem d_M_settle_81 : decode prog_8_method_29_code 81 = .ok (.aload_n 0, 1) := by decide +kernel
theorem d_M_settle_82 : decode prog_8_method_29_code 82 = .ok (.aload_n 0, 1) := by decide +kernel
theorem d_M_settle_83 : decode prog_8_method_29_code 83 = .ok (.getfield 63, 3) := by decide +kernel
theorem d_M_settle_86 : decode prog_8_method_29_code 86 = .ok (.iload_n 1, 1) := by decide +kernel
theorem d_M_settle_87 : decode prog_8_method_29_code 87 = .ok (.iaload, 1) := by decide +kernel
theorem d_M_settle_88 : decode prog_8_method_29_code 88 = .ok (.invokevirtual 125, 3) := by decide +kernel
theorem d_M_settle_91 : decode prog_8_method_29_code 91 = .ok (.ifCond .eq 15, 3) := by decide +kernel
theorem d_M_settle_94 : decode prog_8_method_29_code 94 = .ok (.aload_n 0, 1) := by decide +kernel
theorem d_M_settle_95 : decode prog_8_method_29_code 95 = .ok (.getfield 28, 3) := by decide +kernel
theorem d_M_settle_98 : decode prog_8_method_29_code 98 = .ok (.aload_n 0, 1) := by decide +kernel
theorem d_M_settle_99 : decode prog_8_method_29_code 99 = .ok (.getfield 63, 3) := by decide +kernel
theorem d_M_settle_102 : decode prog_8_method_29_code 102 = .ok (.iload_n 1, 1) := by decide +kernel
theorem d_M_settle_103 : decode prog_8_method_29_code 103 = .ok (.iaload, 1) := by decide +kernel
theorem d_M_settle_104 : decode prog_8_method_29_code 104 = .ok (.iconst 1, 1) := by decide +kernel
theorem d_M_settle_105 : decode prog_8_method_29_code 105 = .ok (.iastore, 1) := by decide +kernel
theorem d_M_settle_106 : decode prog_8_method_29_code 106 = .ok (.aload_n 0, 1) := by decide +kernel
theorem d_M_settle_107 : decode prog_8_method_29_code 107 = .ok (.getfield 34, 3) := by decide +kernel
theorem d_M_settle_110 : decode prog_8_method_29_code 110 = .ok (.aload_n 0, 1) := by decide +kernel
theorem d_M_settle_111 : decode prog_8_method_29_code 111 = .ok (.getfield 60, 3) := by decide +kernel
theorem d_M_settle_114 : decode prog_8_method_29_code 114 = .ok (.iload_n 1, 1) := by decide +kernel
theorem d_M_settle_115 : decode prog_8_method_29_code 115 = .ok (.iaload, 1) := by decide +kernel
theorem d_M_settle_116 : decode prog_8_method_29_code 116 = .ok (.iconst 0, 1) := by decide +kernel
theorem d_M_settle_117 : decode prog_8_method_29_code 117 = .ok (.bastore, 1) := by decide +kernel
theorem d_M_settle_118 : decode prog_8_method_29_code 118 = .ok (.iinc 1 1, 3) := by decide +kernel
theorem d_M_settle_121 : decode prog_8_method_29_code 121 = .ok (.goto (-65), 3) := by decide +kernel
theorem d_M_settle_124 : decode prog_8_method_29_code 124 = .ok (.aload_n 0, 1) := by decide +kernel
theorem d_M_settle_125 : decode prog_8_method_29_code 125 = .ok (.iconst 0, 1) := by decide +kernel
theorem d_M_settle_126 : decode prog_8_method_29_code 126 = .ok (.putfield 153, 3) := by decide +kernel
theorem d_M_settle_129 : decode prog_8_method_29_code 129 = .ok (.return_, 1) := by decide +kernel
theorem d_M_sweep_0 : decode prog_8_method_30_code 0 = .ok (.iconst 0, 1) := by decide +kernel
theorem d_M_sweep_1 : decode prog_8_method_30_code 1 = .ok (.istore_n 1, 1) := by decide +kernel
theorem d_M_sweep_2 : decode prog_8_method_30_code 2 = .ok (.iload_n 1, 1) := by decide +kernel
theorem d_M_sweep_3 : decode prog_8_method_30_code 3 = .ok (.sipush 128, 3) := by decide +kernel
theorem d_M_sweep_6 : decode prog_8_method_30_code 6 = .ok (.if_icmp .ge 74, 3) := by decide +kernel
theorem d_M_sweep_9 : decode prog_8_method_30_code 9 = .ok (.aload_n 0, 1) := by decide +kernel
theorem d_M_sweep_10 : decode prog_8_method_30_code 10 = .ok (.iload_n 1, 1) := by decide +kernel
theorem d_M_sweep_11 : decode prog_8_method_30_code 11 = .ok (.invokevirtual 137, 3) := by decide +kernel
theorem d_M_sweep_14 : decode prog_8_method_30_code 14 = .ok (.istore_n 2, 1) := by decide +kernel
theorem d_M_sweep_15 : decode prog_8_method_30_code 15 = .ok (.iconst 0, 1) := by decide +kernel
theorem d_M_sweep_16 : decode prog_8_method_30_code 16 = .ok (.istore_n 3, 1) := by decide +kernel
theorem d_M_sweep_17 : decode prog_8_method_30_code 17 = .ok (.aload_n 0, 1) := by decide +kernel
theorem d_M_sweep_18 : decode prog_8_method_30_code 18 = .ok (.iload_n 2, 1) := by decide +kernel
theorem d_M_sweep_19 : decode prog_8_method_30_code 19 = .ok (.invokevirtual 125, 3) := by decide +kernel
theorem d_M_sweep_22 : decode prog_8_method_30_code 22 = .ok (.ifCond .eq 52, 3) := by decide +kernel
theorem d_M_sweep_25 : decode prog_8_method_30_code 25 = .ok (.iload_n 3, 1) := by decide +kernel
theorem d_M_sweep_26 : decode prog_8_method_30_code 26 = .ok (.aload_n 0, 1) := by decide +kernel
theorem d_M_sweep_27 : decode prog_8_method_30_code 27 = .ok (.getfield 19, 3) := by decide +kernel
theorem d_M_sweep_30 : decode prog_8_method_30_code 30 = .ok (.iload_n 2, 1) := by decide +kernel
theorem d_M_sweep_31 : decode prog_8_method_30_code 31 = .ok (.iaload, 1) := by decide +kernel
theorem d_M_sweep_32 : decode prog_8_method_30_code 32 = .ok (.if_icmp .ge 42, 3) := by decide +kernel
theorem d_M_sweep_35 : decode prog_8_method_30_code 35 = .ok (.aload_n 0, 1) := by decide +kernel
theorem d_M_sweep_36 : decode prog_8_method_30_code 36 = .ok (.getfield 31, 3) := by decide +kernel
theorem d_M_sweep_39 : decode prog_8_method_30_code 39 = .ok (.bipush 12, 2) := by decide +kernel
theorem d_M_sweep_41 : decode prog_8_method_30_code 41 = .ok (.iload_n 2, 1) := by decide +kernel
theorem d_M_sweep_42 : decode prog_8_method_30_code 42 = .ok (.imul, 1) := by decide +kernel
theorem d_M_sweep_43 : decode prog_8_method_30_code 43 = .ok (.iload_n 3, 1) := by decide +kernel
theorem d_M_sweep_44 : decode prog_8_method_30_code 44 = .ok (.iadd, 1) := by decide +kernel
theorem d_M_sweep_45 : decode prog_8_method_30_code 45 = .ok (.iaload, 1) := by decide +kernel
theorem d_M_sweep_46 : decode prog_8_method_30_code 46 = .ok (.istore 4, 2) := by decide +kernel
theorem d_M_sweep_48 : decode prog_8_method_30_code 48 = .ok (.iload 4, 2) := by decide +kernel
theorem d_M_sweep_50 : decode prog_8_method_30_code 50 = .ok (.ifCond .lt 18, 3) := by decide +kernel
theorem d_M_sweep_53 : decode prog_8_method_30_code 53 = .ok (.aload_n 0, 1) := by decide +kernel
theorem d_M_sweep_54 : decode prog_8_method_30_code 54 = .ok (.iload 4, 2) := by decide +kernel
theorem d_M_sweep_56 : decode prog_8_method_30_code 56 = .ok (.invokevirtual 125, 3) := by decide +kernel
theorem d_M_sweep_59 : decode prog_8_method_30_code 59 = .ok (.ifCond .ne 9, 3) := by decide +kernel
theorem d_M_sweep_62 : decode prog_8_method_30_code 62 = .ok (.aload_n 0, 1) := by decide +kernel
theorem d_M_sweep_63 : decode prog_8_method_30_code 63 = .ok (.iload 4, 2) := by decide +kernel
theorem d_M_sweep_65 : decode prog_8_method_30_code 65 = .ok (.invokevirtual 121, 3) := by decide +kernel
theorem d_M_sweep_68 : decode prog_8_method_30_code 68 = .ok (.iinc 3 1, 3) := by decide +kernel
theorem d_M_sweep_71 : decode prog_8_method_30_code 71 = .ok (.goto (-54), 3) := by decide +kernel
theorem d_M_sweep_74 : decode prog_8_method_30_code 74 = .ok (.iinc 1 1, 3) := by decide +kernel
theorem d_M_sweep_77 : decode prog_8_method_30_code 77 = .ok (.goto (-75), 3) := by decide +kernel
theorem d_M_sweep_80 : decode prog_8_method_30_code 80 = .ok (.iconst 0, 1) := by decide +kernel
theorem d_M_sweep_81 : decode prog_8_method_30_code 81 = .ok (.istore_n 1, 1) := by decide +kernel
theorem d_M_sweep_82 : decode prog_8_method_30_code 82 = .ok (.iload_n 1, 1) := by decide +kernel
theorem d_M_sweep_83 : decode prog_8_method_30_code 83 = .ok (.sipush 256, 3) := by decide +kernel
theorem d_M_sweep_86 : decode prog_8_method_30_code 86 = .ok (.if_icmp .ge 32, 3) := by decide +kernel
theorem d_M_sweep_89 : decode prog_8_method_30_code 89 = .ok (.aload_n 0, 1) := by decide +kernel
theorem d_M_sweep_90 : decode prog_8_method_30_code 90 = .ok (.iload_n 1, 1) := by decide +kernel
theorem d_M_sweep_91 : decode prog_8_method_30_code 91 = .ok (.invokevirtual 125, 3) := by decide +kernel
theorem d_M_sweep_94 : decode prog_8_method_30_code 94 = .ok (.ifCond .eq 18, 3) := by decide +kernel
theorem d_M_sweep_97 : decode prog_8_method_30_code 97 = .ok (.aload_n 0, 1) := by decide +kernel
theorem d_M_sweep_98 : decode prog_8_method_30_code 98 = .ok (.iload_n 1, 1) := by decide +kernel
theorem d_M_sweep_99 : decode prog_8_method_30_code 99 = .ok (.invokevirtual 128, 3) := by decide +kernel
theorem d_M_sweep_102 : decode prog_8_method_30_code 102 = .ok (.aload_n 0, 1) := by decide +kernel
theorem d_M_sweep_103 : decode prog_8_method_30_code 103 = .ok (.dup, 1) := by decide +kernel
theorem d_M_sweep_104 : decode prog_8_method_30_code 104 = .ok (.getfield 159, 3) := by decide +kernel
theorem d_M_sweep_107 : decode prog_8_method_30_code 107 = .ok (.iconst 1, 1) := by decide +kernel
theorem d_M_sweep_108 : decode prog_8_method_30_code 108 = .ok (.iadd, 1) := by decide +kernel
theorem d_M_sweep_109 : decode prog_8_method_30_code 109 = .ok (.putfield 159, 3) := by decide +kernel
theorem d_M_sweep_112 : decode prog_8_method_30_code 112 = .ok (.iinc 1 1, 3) := by decide +kernel
theorem d_M_sweep_115 : decode prog_8_method_30_code 115 = .ok (.goto (-33), 3) := by decide +kernel
theorem d_M_sweep_118 : decode prog_8_method_30_code 118 = .ok (.return_, 1) := by decide +kernel
theorem d_M_holders_0 : decode prog_8_method_31_code 0 = .ok (.iconst 0, 1) := by decide +kernel
theorem d_M_holders_1 : decode prog_8_method_31_code 1 = .ok (.istore_n 2, 1) := by decide +kernel
theorem d_M_holders_2 : decode prog_8_method_31_code 2 = .ok (.iconst 0, 1) := by decide +kernel
theorem d_M_holders_3 : decode prog_8_method_31_code 3 = .ok (.istore_n 3, 1) := by decide +kernel
theorem d_M_holders_4 : decode prog_8_method_31_code 4 = .ok (.iload_n 3, 1) := by decide +kernel
theorem d_M_holders_5 : decode prog_8_method_31_code 5 = .ok (.bipush 6, 2) := by decide +kernel
theorem d_M_holders_7 : decode prog_8_method_31_code 7 = .ok (.if_icmp .ge 27, 3) := by decide +kernel
theorem d_M_holders_10 : decode prog_8_method_31_code 10 = .ok (.aload_n 0, 1) := by decide +kernel
theorem d_M_holders_11 : decode prog_8_method_31_code 11 = .ok (.getfield 38, 3) := by decide +kernel
theorem d_M_holders_14 : decode prog_8_method_31_code 14 = .ok (.iload_n 3, 1) := by decide +kernel
theorem d_M_holders_15 : decode prog_8_method_31_code 15 = .ok (.iaload, 1) := by decide +kernel
theorem d_M_holders_16 : decode prog_8_method_31_code 16 = .ok (.iload_n 1, 1) := by decide +kernel
theorem d_M_holders_17 : decode prog_8_method_31_code 17 = .ok (.if_icmp .ne 9, 3) := by decide +kernel
theorem d_M_holders_20 : decode prog_8_method_31_code 20 = .ok (.iload_n 2, 1) := by decide +kernel
theorem d_M_holders_21 : decode prog_8_method_31_code 21 = .ok (.iconst 1, 1) := by decide +kernel
theorem d_M_holders_22 : decode prog_8_method_31_code 22 = .ok (.iadd, 1) := by decide +kernel
theorem d_M_holders_23 : decode prog_8_method_31_code 23 = .ok (.goto 4, 3) := by decide +kernel
theorem d_M_holders_26 : decode prog_8_method_31_code 26 = .ok (.iload_n 2, 1) := by decide +kernel
theorem d_M_holders_27 : decode prog_8_method_31_code 27 = .ok (.istore_n 2, 1) := by decide +kernel
theorem d_M_holders_28 : decode prog_8_method_31_code 28 = .ok (.iinc 3 1, 3) := by decide +kernel
theorem d_M_holders_31 : decode prog_8_method_31_code 31 = .ok (.goto (-27), 3) := by decide +kernel
theorem d_M_holders_34 : decode prog_8_method_31_code 34 = .ok (.iconst 0, 1) := by decide +kernel
theorem d_M_holders_35 : decode prog_8_method_31_code 35 = .ok (.istore_n 3, 1) := by decide +kernel
theorem d_M_holders_36 : decode prog_8_method_31_code 36 = .ok (.iload_n 3, 1) := by decide +kernel
theorem d_M_holders_37 : decode prog_8_method_31_code 37 = .ok (.sipush 256, 3) := by decide +kernel
theorem d_M_holders_40 : decode prog_8_method_31_code 40 = .ok (.if_icmp .ge 62, 3) := by decide +kernel
theorem d_M_holders_43 : decode prog_8_method_31_code 43 = .ok (.iconst 0, 1) := by decide +kernel
theorem d_M_holders_44 : decode prog_8_method_31_code 44 = .ok (.istore 4, 2) := by decide +kernel
theorem d_M_holders_46 : decode prog_8_method_31_code 46 = .ok (.aload_n 0, 1) := by decide +kernel
theorem d_M_holders_47 : decode prog_8_method_31_code 47 = .ok (.getfield 13, 3) := by decide +kernel
theorem d_M_holders_50 : decode prog_8_method_31_code 50 = .ok (.iload_n 3, 1) := by decide +kernel
theorem d_M_holders_51 : decode prog_8_method_31_code 51 = .ok (.iaload, 1) := by decide +kernel
theorem d_M_holders_52 : decode prog_8_method_31_code 52 = .ok (.ifCond .eq 44, 3) := by decide +kernel
theorem d_M_holders_55 : decode prog_8_method_31_code 55 = .ok (.iload 4, 2) := by decide +kernel
theorem d_M_holders_57 : decode prog_8_method_31_code 57 = .ok (.aload_n 0, 1) := by decide +kernel
theorem d_M_holders_58 : decode prog_8_method_31_code 58 = .ok (.getfield 19, 3) := by decide +kernel
theorem d_M_holders_61 : decode prog_8_method_31_code 61 = .ok (.iload_n 3, 1) := by decide +kernel
theorem d_M_holders_62 : decode prog_8_method_31_code 62 = .ok (.iaload, 1) := by decide +kernel
theorem d_M_holders_63 : decode prog_8_method_31_code 63 = .ok (.if_icmp .ge 33, 3) := by decide +kernel
theorem d_M_holders_66 : decode prog_8_method_31_code 66 = .ok (.aload_n 0, 1) := by decide +kernel
theorem d_M_holders_67 : decode prog_8_method_31_code 67 = .ok (.getfield 31, 3) := by decide +kernel
theorem d_M_holders_70 : decode prog_8_method_31_code 70 = .ok (.bipush 12, 2) := by decide +kernel
theorem d_M_holders_72 : decode prog_8_method_31_code 72 = .ok (.iload_n 3, 1) := by decide +kernel
theorem d_M_holders_73 : decode prog_8_method_31_code 73 = .ok (.imul, 1) := by decide +kernel
theorem d_M_holders_74 : decode prog_8_method_31_code 74 = .ok (.iload 4, 2) := by decide +kernel
theorem d_M_holders_76 : decode prog_8_method_31_code 76 = .ok (.iadd, 1) := by decide +kernel
theorem d_M_holders_77 : decode prog_8_method_31_code 77 = .ok (.iaload, 1) := by decide +kernel
theorem d_M_holders_78 : decode prog_8_method_31_code 78 = .ok (.iload_n 1, 1) := by decide +kernel
theorem d_M_holders_79 : decode prog_8_method_31_code 79 = .ok (.if_icmp .ne 9, 3) := by decide +kernel
theorem d_M_holders_82 : decode prog_8_method_31_code 82 = .ok (.iload_n 2, 1) := by decide +kernel
theorem d_M_holders_83 : decode prog_8_method_31_code 83 = .ok (.iconst 1, 1) := by decide +kernel
theorem d_M_holders_84 : decode prog_8_method_31_code 84 = .ok (.iadd, 1) := by decide +kernel
theorem d_M_holders_85 : decode prog_8_method_31_code 85 = .ok (.goto 4, 3) := by decide +kernel
theorem d_M_holders_88 : decode prog_8_method_31_code 88 = .ok (.iload_n 2, 1) := by decide +kernel
theorem d_M_holders_89 : decode prog_8_method_31_code 89 = .ok (.istore_n 2, 1) := by decide +kernel
theorem d_M_holders_90 : decode prog_8_method_31_code 90 = .ok (.iinc 4 1, 3) := by decide +kernel
theorem d_M_holders_93 : decode prog_8_method_31_code 93 = .ok (.goto (-47), 3) := by decide +kernel
theorem d_M_holders_96 : decode prog_8_method_31_code 96 = .ok (.iinc 3 1, 3) := by decide +kernel
theorem d_M_holders_99 : decode prog_8_method_31_code 99 = .ok (.goto (-63), 3) := by decide +kernel
theorem d_M_holders_102 : decode prog_8_method_31_code 102 = .ok (.iconst 0, 1) := by decide +kernel
theorem d_M_holders_103 : decode prog_8_method_31_code 103 = .ok (.istore_n 3, 1) := by decide +kernel
theorem d_M_holders_104 : decode prog_8_method_31_code 104 = .ok (.iload_n 3, 1) := by decide +kernel
theorem d_M_holders_105 : decode prog_8_method_31_code 105 = .ok (.aload_n 0, 1) := by decide +kernel
theorem d_M_holders_106 : decode prog_8_method_31_code 106 = .ok (.getfield 118, 3) := by decide +kernel
theorem d_M_holders_109 : decode prog_8_method_31_code 109 = .ok (.if_icmp .ge 27, 3) := by decide +kernel
theorem d_M_holders_112 : decode prog_8_method_31_code 112 = .ok (.aload_n 0, 1) := by decide +kernel
theorem d_M_holders_113 : decode prog_8_method_31_code 113 = .ok (.getfield 57, 3) := by decide +kernel
theorem d_M_holders_116 : decode prog_8_method_31_code 116 = .ok (.iload_n 3, 1) := by decide +kernel
theorem d_M_holders_117 : decode prog_8_method_31_code 117 = .ok (.iaload, 1) := by decide +kernel
theorem d_M_holders_118 : decode prog_8_method_31_code 118 = .ok (.iload_n 1, 1) := by decide +kernel
theorem d_M_holders_119 : decode prog_8_method_31_code 119 = .ok (.if_icmp .ne 9, 3) := by decide +kernel
theorem d_M_holders_122 : decode prog_8_method_31_code 122 = .ok (.iload_n 2, 1) := by decide +kernel
theorem d_M_holders_123 : decode prog_8_method_31_code 123 = .ok (.iconst 1, 1) := by decide +kernel
theorem d_M_holders_124 : decode prog_8_method_31_code 124 = .ok (.iadd, 1) := by decide +kernel
theorem d_M_holders_125 : decode prog_8_method_31_code 125 = .ok (.goto 4, 3) := by decide +kernel
theorem d_M_holders_128 : decode prog_8_method_31_code 128 = .ok (.iload_n 2, 1) := by decide +kernel
theorem d_M_holders_129 : decode prog_8_method_31_code 129 = .ok (.istore_n 2, 1) := by decide +kernel
theorem d_M_holders_130 : decode prog_8_method_31_code 130 = .ok (.iinc 3 1, 3) := by decide +kernel
theorem d_M_holders_133 : decode prog_8_method_31_code 133 = .ok (.goto (-29), 3) := by decide +kernel
theorem d_M_holders_136 : decode prog_8_method_31_code 136 = .ok (.iload_n 2, 1) := by decide +kernel
theorem d_M_holders_137 : decode prog_8_method_31_code 137 = .ok (.ireturn, 1) := by decide +kernel
theorem d_M_countAnew_0 : decode prog_8_method_32_code 0 = .ok (.iconst 0, 1) := by decide +kernel
theorem d_M_countAnew_1 : decode prog_8_method_32_code 1 = .ok (.istore_n 1, 1) := by decide +kernel
theorem d_M_countAnew_2 : decode prog_8_method_32_code 2 = .ok (.iload_n 1, 1) := by decide +kernel
theorem d_M_countAnew_3 : decode prog_8_method_32_code 3 = .ok (.sipush 128, 3) := by decide +kernel
theorem d_M_countAnew_6 : decode prog_8_method_32_code 6 = .ok (.if_icmp .ge 60, 3) := by decide +kernel
theorem d_M_countAnew_9 : decode prog_8_method_32_code 9 = .ok (.aload_n 0, 1) := by decide +kernel
theorem d_M_countAnew_10 : decode prog_8_method_32_code 10 = .ok (.iload_n 1, 1) := by decide +kernel
theorem d_M_countAnew_11 : decode prog_8_method_32_code 11 = .ok (.invokevirtual 137, 3) := by decide +kernel
theorem d_M_countAnew_14 : decode prog_8_method_32_code 14 = .ok (.istore_n 2, 1) := by decide +kernel
theorem d_M_countAnew_15 : decode prog_8_method_32_code 15 = .ok (.iload_n 2, 1) := by decide +kernel
theorem d_M_countAnew_16 : decode prog_8_method_32_code 16 = .ok (.ifCond .lt 44, 3) := by decide +kernel
theorem d_M_countAnew_19 : decode prog_8_method_32_code 19 = .ok (.aload_n 0, 1) := by decide +kernel
theorem d_M_countAnew_20 : decode prog_8_method_32_code 20 = .ok (.getfield 25, 3) := by decide +kernel
theorem d_M_countAnew_23 : decode prog_8_method_32_code 23 = .ok (.iload_n 2, 1) := by decide +kernel
theorem d_M_countAnew_24 : decode prog_8_method_32_code 24 = .ok (.iaload, 1) := by decide +kernel
theorem d_M_countAnew_25 : decode prog_8_method_32_code 25 = .ok (.iconst 3, 1) := by decide +kernel
theorem d_M_countAnew_26 : decode prog_8_method_32_code 26 = .ok (.if_icmp .ne 34, 3) := by decide +kernel
theorem d_M_countAnew_29 : decode prog_8_method_32_code 29 = .ok (.aload_n 0, 1) := by decide +kernel
theorem d_M_countAnew_30 : decode prog_8_method_32_code 30 = .ok (.iload_n 2, 1) := by decide +kernel
theorem d_M_countAnew_31 : decode prog_8_method_32_code 31 = .ok (.invokevirtual 162, 3) := by decide +kernel
theorem d_M_countAnew_34 : decode prog_8_method_32_code 34 = .ok (.istore_n 3, 1) := by decide +kernel
theorem d_M_countAnew_35 : decode prog_8_method_32_code 35 = .ok (.aload_n 0, 1) := by decide +kernel
theorem d_M_countAnew_36 : decode prog_8_method_32_code 36 = .ok (.getfield 25, 3) := by decide +kernel
theorem d_M_countAnew_39 : decode prog_8_method_32_code 39 = .ok (.iload_n 2, 1) := by decide +kernel
theorem d_M_countAnew_40 : decode prog_8_method_32_code 40 = .ok (.iload_n 3, 1) := by decide +kernel
theorem d_M_countAnew_41 : decode prog_8_method_32_code 41 = .ok (.iconst 3, 1) := by decide +kernel
theorem d_M_countAnew_42 : decode prog_8_method_32_code 42 = .ok (.if_icmp .ge 7, 3) := by decide +kernel
theorem d_M_countAnew_45 : decode prog_8_method_32_code 45 = .ok (.iload_n 3, 1) := by decide +kernel
theorem d_M_countAnew_46 : decode prog_8_method_32_code 46 = .ok (.goto 4, 3) := by decide +kernel
theorem d_M_countAnew_49 : decode prog_8_method_32_code 49 = .ok (.iconst 3, 1) := by decide +kernel
theorem d_M_countAnew_50 : decode prog_8_method_32_code 50 = .ok (.iastore, 1) := by decide +kernel
theorem d_M_countAnew_51 : decode prog_8_method_32_code 51 = .ok (.iload_n 3, 1) := by decide +kernel
theorem d_M_countAnew_52 : decode prog_8_method_32_code 52 = .ok (.ifCond .ne 8, 3) := by decide +kernel
theorem d_M_countAnew_55 : decode prog_8_method_32_code 55 = .ok (.aload_n 0, 1) := by decide +kernel
theorem d_M_countAnew_56 : decode prog_8_method_32_code 56 = .ok (.iload_n 2, 1) := by decide +kernel
theorem d_M_countAnew_57 : decode prog_8_method_32_code 57 = .ok (.invokevirtual 131, 3) := by decide +kernel
theorem d_M_countAnew_60 : decode prog_8_method_32_code 60 = .ok (.iinc 1 1, 3) := by decide +kernel
theorem d_M_countAnew_63 : decode prog_8_method_32_code 63 = .ok (.goto (-61), 3) := by decide +kernel
theorem d_M_countAnew_66 : decode prog_8_method_32_code 66 = .ok (.iconst 0, 1) := by decide +kernel
theorem d_M_countAnew_67 : decode prog_8_method_32_code 67 = .ok (.istore_n 1, 1) := by decide +kernel
theorem d_M_countAnew_68 : decode prog_8_method_32_code 68 = .ok (.iload_n 1, 1) := by decide +kernel
theorem d_M_countAnew_69 : decode prog_8_method_32_code 69 = .ok (.sipush 256, 3) := by decide +kernel
theorem d_M_countAnew_72 : decode prog_8_method_32_code 72 = .ok (.if_icmp .ge 16, 3) := by decide +kernel
theorem d_M_countAnew_75 : decode prog_8_method_32_code 75 = .ok (.aload_n 0, 1) := by decide +kernel
theorem d_M_countAnew_76 : decode prog_8_method_32_code 76 = .ok (.getfield 28, 3) := by decide +kernel
theorem d_M_countAnew_79 : decode prog_8_method_32_code 79 = .ok (.iload_n 1, 1) := by decide +kernel
theorem d_M_countAnew_80 : decode prog_8_method_32_code 80 = .ok (.iconst 0, 1) := by decide +kernel
theorem d_M_countAnew_81 : decode prog_8_method_32_code 81 = .ok (.iastore, 1) := by decide +kernel
theorem d_M_countAnew_82 : decode prog_8_method_32_code 82 = .ok (.iinc 1 1, 3) := by decide +kernel
theorem d_M_countAnew_85 : decode prog_8_method_32_code 85 = .ok (.goto (-17), 3) := by decide +kernel
theorem d_M_countAnew_88 : decode prog_8_method_32_code 88 = .ok (.return_, 1) := by decide +kernel
theorem d_M_usedLines_0 : decode prog_8_method_33_code 0 = .ok (.iconst 0, 1) := by decide +kernel
theorem d_M_usedLines_1 : decode prog_8_method_33_code 1 = .ok (.istore_n 2, 1) := by decide +kernel
theorem d_M_usedLines_2 : decode prog_8_method_33_code 2 = .ok (.bipush 8, 2) := by decide +kernel
theorem d_M_usedLines_4 : decode prog_8_method_33_code 4 = .ok (.iload_n 1, 1) := by decide +kernel
theorem d_M_usedLines_5 : decode prog_8_method_33_code 5 = .ok (.imul, 1) := by decide +kernel
theorem d_M_usedLines_6 : decode prog_8_method_33_code 6 = .ok (.istore_n 3, 1) := by decide +kernel
theorem d_M_usedLines_7 : decode prog_8_method_33_code 7 = .ok (.iload_n 3, 1) := by decide +kernel
theorem d_M_usedLines_8 : decode prog_8_method_33_code 8 = .ok (.bipush 8, 2) := by decide +kernel
theorem d_M_usedLines_10 : decode prog_8_method_33_code 10 = .ok (.iload_n 1, 1) := by decide +kernel
theorem d_M_usedLines_11 : decode prog_8_method_33_code 11 = .ok (.imul, 1) := by decide +kernel
theorem d_M_usedLines_12 : decode prog_8_method_33_code 12 = .ok (.bipush 8, 2) := by decide +kernel
theorem d_M_usedLines_14 : decode prog_8_method_33_code 14 = .ok (.iadd, 1) := by decide +kernel
theorem d_M_usedLines_15 : decode prog_8_method_33_code 15 = .ok (.if_icmp .ge 25, 3) := by decide +kernel
theorem d_M_usedLines_18 : decode prog_8_method_33_code 18 = .ok (.aload_n 0, 1) := by decide +kernel
theorem d_M_usedLines_19 : decode prog_8_method_33_code 19 = .ok (.iload_n 3, 1) := by decide +kernel
theorem d_M_usedLines_20 : decode prog_8_method_33_code 20 = .ok (.invokevirtual 75, 3) := by decide +kernel
theorem d_M_usedLines_23 : decode prog_8_method_33_code 23 = .ok (.ifCond .eq 9, 3) := by decide +kernel
theorem d_M_usedLines_26 : decode prog_8_method_33_code 26 = .ok (.iload_n 2, 1) := by decide +kernel
theorem d_M_usedLines_27 : decode prog_8_method_33_code 27 = .ok (.iconst 1, 1) := by decide +kernel
theorem d_M_usedLines_28 : decode prog_8_method_33_code 28 = .ok (.iadd, 1) := by decide +kernel
theorem d_M_usedLines_29 : decode prog_8_method_33_code 29 = .ok (.goto 4, 3) := by decide +kernel
theorem d_M_usedLines_32 : decode prog_8_method_33_code 32 = .ok (.iload_n 2, 1) := by decide +kernel
theorem d_M_usedLines_33 : decode prog_8_method_33_code 33 = .ok (.istore_n 2, 1) := by decide +kernel
theorem d_M_usedLines_34 : decode prog_8_method_33_code 34 = .ok (.iinc 3 1, 3) := by decide +kernel
theorem d_M_usedLines_37 : decode prog_8_method_33_code 37 = .ok (.goto (-30), 3) := by decide +kernel
theorem d_M_usedLines_40 : decode prog_8_method_33_code 40 = .ok (.iload_n 2, 1) := by decide +kernel
theorem d_M_usedLines_41 : decode prog_8_method_33_code 41 = .ok (.ireturn, 1) := by decide +kernel
theorem d_M_clearBlock_0 : decode prog_8_method_34_code 0 = .ok (.iconst (-1), 1) := by decide +kernel
theorem d_M_clearBlock_1 : decode prog_8_method_34_code 1 = .ok (.istore_n 1, 1) := by decide +kernel
theorem d_M_clearBlock_2 : decode prog_8_method_34_code 2 = .ok (.iconst 3, 1) := by decide +kernel
theorem d_M_clearBlock_3 : decode prog_8_method_34_code 3 = .ok (.istore_n 2, 1) := by decide +kernel
theorem d_M_clearBlock_4 : decode prog_8_method_34_code 4 = .ok (.iload_n 2, 1) := by decide +kernel
theorem d_M_clearBlock_5 : decode prog_8_method_34_code 5 = .ok (.ifCond .lt 39, 3) := by decide +kernel
theorem d_M_clearBlock_8 : decode prog_8_method_34_code 8 = .ok (.aload_n 0, 1) := by decide +kernel
theorem d_M_clearBlock_9 : decode prog_8_method_34_code 9 = .ok (.iload_n 2, 1) := by decide +kernel
theorem d_M_clearBlock_10 : decode prog_8_method_34_code 10 = .ok (.invokevirtual 165, 3) := by decide +kernel
theorem d_M_clearBlock_13 : decode prog_8_method_34_code 13 = .ok (.istore_n 3, 1) := by decide +kernel
theorem d_M_clearBlock_14 : decode prog_8_method_34_code 14 = .ok (.iload_n 3, 1) := by decide +kernel
theorem d_M_clearBlock_15 : decode prog_8_method_34_code 15 = .ok (.ifCond .le 23, 3) := by decide +kernel
theorem d_M_clearBlock_18 : decode prog_8_method_34_code 18 = .ok (.iload_n 3, 1) := by decide +kernel
theorem d_M_clearBlock_19 : decode prog_8_method_34_code 19 = .ok (.iconst 4, 1) := by decide +kernel
theorem d_M_clearBlock_20 : decode prog_8_method_34_code 20 = .ok (.if_icmp .ge 18, 3) := by decide +kernel
theorem d_M_clearBlock_23 : decode prog_8_method_34_code 23 = .ok (.iload_n 1, 1) := by decide +kernel
theorem d_M_clearBlock_24 : decode prog_8_method_34_code 24 = .ok (.ifCond .lt 12, 3) := by decide +kernel
theorem d_M_clearBlock_27 : decode prog_8_method_34_code 27 = .ok (.iload_n 3, 1) := by decide +kernel
theorem d_M_clearBlock_28 : decode prog_8_method_34_code 28 = .ok (.aload_n 0, 1) := by decide +kernel
theorem d_M_clearBlock_29 : decode prog_8_method_34_code 29 = .ok (.iload_n 1, 1) := by decide +kernel
theorem d_M_clearBlock_30 : decode prog_8_method_34_code 30 = .ok (.invokevirtual 165, 3) := by decide +kernel
theorem d_M_clearBlock_33 : decode prog_8_method_34_code 33 = .ok (.if_icmp .gt 5, 3) := by decide +kernel
theorem d_M_clearBlock_36 : decode prog_8_method_34_code 36 = .ok (.iload_n 2, 1) := by decide +kernel
theorem d_M_clearBlock_37 : decode prog_8_method_34_code 37 = .ok (.istore_n 1, 1) := by decide +kernel
theorem d_M_clearBlock_38 : decode prog_8_method_34_code 38 = .ok (.iinc 2 (-1), 3) := by decide +kernel
theorem d_M_clearBlock_41 : decode prog_8_method_34_code 41 = .ok (.goto (-37), 3) := by decide +kernel
theorem d_M_clearBlock_44 : decode prog_8_method_34_code 44 = .ok (.iload_n 1, 1) := by decide +kernel
theorem d_M_clearBlock_45 : decode prog_8_method_34_code 45 = .ok (.ifCond .ge 4, 3) := by decide +kernel
theorem d_M_clearBlock_48 : decode prog_8_method_34_code 48 = .ok (.return_, 1) := by decide +kernel
theorem d_M_clearBlock_49 : decode prog_8_method_34_code 49 = .ok (.aload_n 0, 1) := by decide +kernel
theorem d_M_clearBlock_50 : decode prog_8_method_34_code 50 = .ok (.invokevirtual 168, 3) := by decide +kernel
theorem d_M_clearBlock_53 : decode prog_8_method_34_code 53 = .ok (.aload_n 0, 1) := by decide +kernel
theorem d_M_clearBlock_54 : decode prog_8_method_34_code 54 = .ok (.iload_n 1, 1) := by decide +kernel
theorem d_M_clearBlock_55 : decode prog_8_method_34_code 55 = .ok (.putfield 54, 3) := by decide +kernel
theorem d_M_clearBlock_58 : decode prog_8_method_34_code 58 = .ok (.bipush 32, 2) := by decide +kernel
theorem d_M_clearBlock_60 : decode prog_8_method_34_code 60 = .ok (.iload_n 1, 1) := by decide +kernel
theorem d_M_clearBlock_61 : decode prog_8_method_34_code 61 = .ok (.imul, 1) := by decide +kernel
theorem d_M_clearBlock_62 : decode prog_8_method_34_code 62 = .ok (.istore_n 2, 1) := by decide +kernel
theorem d_M_clearBlock_63 : decode prog_8_method_34_code 63 = .ok (.iload_n 2, 1) := by decide +kernel
theorem d_M_clearBlock_64 : decode prog_8_method_34_code 64 = .ok (.bipush 32, 2) := by decide +kernel
theorem d_M_clearBlock_66 : decode prog_8_method_34_code 66 = .ok (.iload_n 1, 1) := by decide +kernel
theorem d_M_clearBlock_67 : decode prog_8_method_34_code 67 = .ok (.imul, 1) := by decide +kernel
theorem d_M_clearBlock_68 : decode prog_8_method_34_code 68 = .ok (.bipush 32, 2) := by decide +kernel
theorem d_M_clearBlock_70 : decode prog_8_method_34_code 70 = .ok (.iadd, 1) := by decide +kernel
theorem d_M_clearBlock_71 : decode prog_8_method_34_code 71 = .ok (.if_icmp .ge 24, 3) := by decide +kernel
theorem d_M_clearBlock_74 : decode prog_8_method_34_code 74 = .ok (.aload_n 0, 1) := by decide +kernel
theorem d_M_clearBlock_75 : decode prog_8_method_34_code 75 = .ok (.iload_n 2, 1) := by decide +kernel
theorem d_M_clearBlock_76 : decode prog_8_method_34_code 76 = .ok (.invokevirtual 137, 3) := by decide +kernel
theorem d_M_clearBlock_79 : decode prog_8_method_34_code 79 = .ok (.istore_n 3, 1) := by decide +kernel
theorem d_M_clearBlock_80 : decode prog_8_method_34_code 80 = .ok (.iload_n 3, 1) := by decide +kernel
theorem d_M_clearBlock_81 : decode prog_8_method_34_code 81 = .ok (.ifCond .lt 8, 3) := by decide +kernel
theorem d_M_clearBlock_84 : decode prog_8_method_34_code 84 = .ok (.aload_n 0, 1) := by decide +kernel
theorem d_M_clearBlock_85 : decode prog_8_method_34_code 85 = .ok (.iload_n 3, 1) := by decide +kernel
theorem d_M_clearBlock_86 : decode prog_8_method_34_code 86 = .ok (.invokevirtual 147, 3) := by decide +kernel
theorem d_M_clearBlock_89 : decode prog_8_method_34_code 89 = .ok (.iinc 2 1, 3) := by decide +kernel
theorem d_M_clearBlock_92 : decode prog_8_method_34_code 92 = .ok (.goto (-29), 3) := by decide +kernel
theorem d_M_clearBlock_95 : decode prog_8_method_34_code 95 = .ok (.aload_n 0, 1) := by decide +kernel
theorem d_M_clearBlock_96 : decode prog_8_method_34_code 96 = .ok (.iconst (-1), 1) := by decide +kernel
theorem d_M_clearBlock_97 : decode prog_8_method_34_code 97 = .ok (.putfield 54, 3) := by decide +kernel
theorem d_M_clearBlock_100 : decode prog_8_method_34_code 100 = .ok (.aload_n 0, 1) := by decide +kernel
theorem d_M_clearBlock_101 : decode prog_8_method_34_code 101 = .ok (.invokevirtual 171, 3) := by decide +kernel
theorem d_M_clearBlock_104 : decode prog_8_method_34_code 104 = .ok (.return_, 1) := by decide +kernel
theorem d_M_halt_0 : decode prog_8_method_35_code 0 = .ok (.aload_n 0, 1) := by decide +kernel
theorem d_M_halt_1 : decode prog_8_method_35_code 1 = .ok (.invokevirtual 174, 3) := by decide +kernel
theorem d_M_halt_4 : decode prog_8_method_35_code 4 = .ok (.aload_n 0, 1) := by decide +kernel
theorem d_M_halt_5 : decode prog_8_method_35_code 5 = .ok (.invokevirtual 168, 3) := by decide +kernel
theorem d_M_halt_8 : decode prog_8_method_35_code 8 = .ok (.aload_n 0, 1) := by decide +kernel
theorem d_M_halt_9 : decode prog_8_method_35_code 9 = .ok (.invokevirtual 177, 3) := by decide +kernel
theorem d_M_halt_12 : decode prog_8_method_35_code 12 = .ok (.istore_n 2, 1) := by decide +kernel
theorem d_M_halt_13 : decode prog_8_method_35_code 13 = .ok (.aload_n 0, 1) := by decide +kernel
theorem d_M_halt_14 : decode prog_8_method_35_code 14 = .ok (.invokevirtual 171, 3) := by decide +kernel
theorem d_M_halt_17 : decode prog_8_method_35_code 17 = .ok (.aload_n 0, 1) := by decide +kernel
theorem d_M_halt_18 : decode prog_8_method_35_code 18 = .ok (.invokevirtual 181, 3) := by decide +kernel
theorem d_M_halt_21 : decode prog_8_method_35_code 21 = .ok (.aload_n 0, 1) := by decide +kernel
theorem d_M_halt_22 : decode prog_8_method_35_code 22 = .ok (.getfield 143, 3) := by decide +kernel
theorem d_M_halt_25 : decode prog_8_method_35_code 25 = .ok (.ifCond .eq 27, 3) := by decide +kernel
theorem d_M_halt_28 : decode prog_8_method_35_code 28 = .ok (.aload_n 0, 1) := by decide +kernel
theorem d_M_halt_29 : decode prog_8_method_35_code 29 = .ok (.invokevirtual 184, 3) := by decide +kernel
theorem d_M_halt_32 : decode prog_8_method_35_code 32 = .ok (.ifCond .ne 20, 3) := by decide +kernel
theorem d_M_halt_35 : decode prog_8_method_35_code 35 = .ok (.aload_n 0, 1) := by decide +kernel
theorem d_M_halt_36 : decode prog_8_method_35_code 36 = .ok (.invokevirtual 187, 3) := by decide +kernel
theorem d_M_halt_39 : decode prog_8_method_35_code 39 = .ok (.aload_n 0, 1) := by decide +kernel
theorem d_M_halt_40 : decode prog_8_method_35_code 40 = .ok (.invokevirtual 190, 3) := by decide +kernel
theorem d_M_halt_43 : decode prog_8_method_35_code 43 = .ok (.aload_n 0, 1) := by decide +kernel
