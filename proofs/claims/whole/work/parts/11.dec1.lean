/-! Instructions (written by a program) -/
theorem d_P_moveOut_16 : decode prog_4_method_6_code 16 = .ok (.dup2, 1) := by decide +kernel
theorem d_P_moveOut_17 : decode prog_4_method_6_code 17 = .ok (.iaload, 1) := by decide +kernel
theorem d_P_moveOut_18 : decode prog_4_method_6_code 18 = .ok (.iconst 1, 1) := by decide +kernel
theorem d_P_moveOut_19 : decode prog_4_method_6_code 19 = .ok (.isub, 1) := by decide +kernel
theorem d_P_moveOut_20 : decode prog_4_method_6_code 20 = .ok (.iastore, 1) := by decide +kernel
theorem d_P_moveOut_21 : decode prog_4_method_6_code 21 = .ok (.aload_n 0, 1) := by decide +kernel
theorem d_P_moveOut_22 : decode prog_4_method_6_code 22 = .ok (.getfield 15, 3) := by decide +kernel
theorem d_P_moveOut_25 : decode prog_4_method_6_code 25 = .ok (.iload_n 3, 1) := by decide +kernel
theorem d_P_moveOut_26 : decode prog_4_method_6_code 26 = .ok (.iconst 4, 1) := by decide +kernel
theorem d_P_moveOut_27 : decode prog_4_method_6_code 27 = .ok (.idiv, 1) := by decide +kernel
theorem d_P_moveOut_28 : decode prog_4_method_6_code 28 = .ok (.iconst 1, 1) := by decide +kernel
theorem d_P_moveOut_29 : decode prog_4_method_6_code 29 = .ok (.bastore, 1) := by decide +kernel
theorem d_P_moveOut_30 : decode prog_4_method_6_code 30 = .ok (.iinc 3 1, 3) := by decide +kernel
theorem d_P_moveOut_33 : decode prog_4_method_6_code 33 = .ok (.goto (-31), 3) := by decide +kernel
theorem d_P_moveOut_36 : decode prog_4_method_6_code 36 = .ok (.return_, 1) := by decide +kernel
theorem d_C_moveTo_0 : decode prog_1_method_23_code 0 = .ok (.iload_n 2, 1) := by decide +kernel
theorem d_C_moveTo_1 : decode prog_1_method_23_code 1 = .ok (.iconst (-1), 1) := by decide +kernel
theorem d_C_moveTo_2 : decode prog_1_method_23_code 2 = .ok (.if_icmp .ne 4, 3) := by decide +kernel
theorem d_C_moveTo_5 : decode prog_1_method_23_code 5 = .ok (.return_, 1) := by decide +kernel
theorem d_C_moveTo_6 : decode prog_1_method_23_code 6 = .ok (.aload_n 0, 1) := by decide +kernel
theorem d_C_moveTo_7 : decode prog_1_method_23_code 7 = .ok (.getfield 18, 3) := by decide +kernel
theorem d_C_moveTo_10 : decode prog_1_method_23_code 10 = .ok (.aload_n 1, 1) := by decide +kernel
theorem d_C_moveTo_11 : decode prog_1_method_23_code 11 = .ok (.getfield 191, 3) := by decide +kernel
theorem d_C_moveTo_14 : decode prog_1_method_23_code 14 = .ok (.aconst_null, 1) := by decide +kernel
theorem d_C_moveTo_15 : decode prog_1_method_23_code 15 = .ok (.aastore, 1) := by decide +kernel
theorem d_C_moveTo_16 : decode prog_1_method_23_code 16 = .ok (.aload_n 0, 1) := by decide +kernel
theorem d_C_moveTo_17 : decode prog_1_method_23_code 17 = .ok (.getfield 24, 3) := by decide +kernel
theorem d_C_moveTo_20 : decode prog_1_method_23_code 20 = .ok (.aload_n 1, 1) := by decide +kernel
theorem d_C_moveTo_21 : decode prog_1_method_23_code 21 = .ok (.getfield 191, 3) := by decide +kernel
theorem d_C_moveTo_24 : decode prog_1_method_23_code 24 = .ok (.aload_n 1, 1) := by decide +kernel
theorem d_C_moveTo_25 : decode prog_1_method_23_code 25 = .ok (.getfield 160, 3) := by decide +kernel
theorem d_C_moveTo_28 : decode prog_1_method_23_code 28 = .ok (.invokevirtual 197, 3) := by decide +kernel
theorem d_C_moveTo_31 : decode prog_1_method_23_code 31 = .ok (.aload_n 0, 1) := by decide +kernel
theorem d_C_moveTo_32 : decode prog_1_method_23_code 32 = .ok (.aload_n 1, 1) := by decide +kernel
theorem d_C_moveTo_33 : decode prog_1_method_23_code 33 = .ok (.iload_n 2, 1) := by decide +kernel
theorem d_C_moveTo_34 : decode prog_1_method_23_code 34 = .ok (.invokevirtual 65, 3) := by decide +kernel
theorem d_C_moveTo_37 : decode prog_1_method_23_code 37 = .ok (.aload_n 0, 1) := by decide +kernel
theorem d_C_moveTo_38 : decode prog_1_method_23_code 38 = .ok (.dup, 1) := by decide +kernel
theorem d_C_moveTo_39 : decode prog_1_method_23_code 39 = .ok (.getfield 185, 3) := by decide +kernel
theorem d_C_moveTo_42 : decode prog_1_method_23_code 42 = .ok (.iconst 1, 1) := by decide +kernel
theorem d_C_moveTo_43 : decode prog_1_method_23_code 43 = .ok (.iadd, 1) := by decide +kernel
theorem d_C_moveTo_44 : decode prog_1_method_23_code 44 = .ok (.putfield 185, 3) := by decide +kernel
theorem d_C_moveTo_47 : decode prog_1_method_23_code 47 = .ok (.return_, 1) := by decide +kernel
theorem d_C_addFieldsToSlots_0 : decode prog_1_method_35_code 0 = .ok (.aload_n 1, 1) := by decide +kernel
theorem d_C_addFieldsToSlots_1 : decode prog_1_method_35_code 1 = .ok (.getfield 73, 3) := by decide +kernel
theorem d_C_addFieldsToSlots_4 : decode prog_1_method_35_code 4 = .ok (.astore_n 2, 1) := by decide +kernel
theorem d_C_addFieldsToSlots_5 : decode prog_1_method_35_code 5 = .ok (.aload_n 2, 1) := by decide +kernel
theorem d_C_addFieldsToSlots_6 : decode prog_1_method_35_code 6 = .ok (.arraylength, 1) := by decide +kernel
theorem d_C_addFieldsToSlots_7 : decode prog_1_method_35_code 7 = .ok (.istore_n 3, 1) := by decide +kernel
theorem d_C_addFieldsToSlots_8 : decode prog_1_method_35_code 8 = .ok (.iconst 0, 1) := by decide +kernel
theorem d_C_addFieldsToSlots_9 : decode prog_1_method_35_code 9 = .ok (.istore 4, 2) := by decide +kernel
theorem d_C_addFieldsToSlots_11 : decode prog_1_method_35_code 11 = .ok (.iload 4, 2) := by decide +kernel
theorem d_C_addFieldsToSlots_13 : decode prog_1_method_35_code 13 = .ok (.iload_n 3, 1) := by decide +kernel
theorem d_C_addFieldsToSlots_14 : decode prog_1_method_35_code 14 = .ok (.if_icmp .ge 24, 3) := by decide +kernel
theorem d_C_addFieldsToSlots_17 : decode prog_1_method_35_code 17 = .ok (.aload_n 2, 1) := by decide +kernel
theorem d_C_addFieldsToSlots_18 : decode prog_1_method_35_code 18 = .ok (.iload 4, 2) := by decide +kernel
theorem d_C_addFieldsToSlots_20 : decode prog_1_method_35_code 20 = .ok (.aaload, 1) := by decide +kernel
theorem d_C_addFieldsToSlots_21 : decode prog_1_method_35_code 21 = .ok (.astore 5, 2) := by decide +kernel
theorem d_C_addFieldsToSlots_23 : decode prog_1_method_35_code 23 = .ok (.aload_n 0, 1) := by decide +kernel
theorem d_C_addFieldsToSlots_24 : decode prog_1_method_35_code 24 = .ok (.getfield 42, 3) := by decide +kernel
theorem d_C_addFieldsToSlots_27 : decode prog_1_method_35_code 27 = .ok (.aload 5, 2) := by decide +kernel
theorem d_C_addFieldsToSlots_29 : decode prog_1_method_35_code 29 = .ok (.invokevirtual 218, 3) := by decide +kernel
theorem d_C_addFieldsToSlots_32 : decode prog_1_method_35_code 32 = .ok (.iinc 4 1, 3) := by decide +kernel
theorem d_C_addFieldsToSlots_35 : decode prog_1_method_35_code 35 = .ok (.goto (-24), 3) := by decide +kernel
theorem d_C_addFieldsToSlots_38 : decode prog_1_method_35_code 38 = .ok (.return_, 1) := by decide +kernel
theorem d_P_forgetMovedOut_0 : decode prog_4_method_7_code 0 = .ok (.iconst 0, 1) := by decide +kernel
theorem d_P_forgetMovedOut_1 : decode prog_4_method_7_code 1 = .ok (.istore_n 1, 1) := by decide +kernel
theorem d_P_forgetMovedOut_2 : decode prog_4_method_7_code 2 = .ok (.iload_n 1, 1) := by decide +kernel
theorem d_P_forgetMovedOut_3 : decode prog_4_method_7_code 3 = .ok (.bipush 32, 2) := by decide +kernel
theorem d_P_forgetMovedOut_5 : decode prog_4_method_7_code 5 = .ok (.if_icmp .ge 16, 3) := by decide +kernel
theorem d_P_forgetMovedOut_8 : decode prog_4_method_7_code 8 = .ok (.aload_n 0, 1) := by decide +kernel
theorem d_P_forgetMovedOut_9 : decode prog_4_method_7_code 9 = .ok (.getfield 15, 3) := by decide +kernel
theorem d_P_forgetMovedOut_12 : decode prog_4_method_7_code 12 = .ok (.iload_n 1, 1) := by decide +kernel
theorem d_P_forgetMovedOut_13 : decode prog_4_method_7_code 13 = .ok (.iconst 0, 1) := by decide +kernel
theorem d_P_forgetMovedOut_14 : decode prog_4_method_7_code 14 = .ok (.bastore, 1) := by decide +kernel
theorem d_P_forgetMovedOut_15 : decode prog_4_method_7_code 15 = .ok (.iinc 1 1, 3) := by decide +kernel
theorem d_P_forgetMovedOut_18 : decode prog_4_method_7_code 18 = .ok (.goto (-16), 3) := by decide +kernel
theorem d_P_forgetMovedOut_21 : decode prog_4_method_7_code 21 = .ok (.return_, 1) := by decide +kernel
theorem d_C_countSlots_0 : decode prog_1_method_33_code 0 = .ok (.aload_n 0, 1) := by decide +kernel
theorem d_C_countSlots_1 : decode prog_1_method_33_code 1 = .ok (.invokevirtual 229, 3) := by decide +kernel
theorem d_C_countSlots_4 : decode prog_1_method_33_code 4 = .ok (.iconst 0, 1) := by decide +kernel
theorem d_C_countSlots_5 : decode prog_1_method_33_code 5 = .ok (.istore_n 1, 1) := by decide +kernel
theorem d_C_countSlots_6 : decode prog_1_method_33_code 6 = .ok (.iconst 0, 1) := by decide +kernel
theorem d_C_countSlots_7 : decode prog_1_method_33_code 7 = .ok (.istore_n 2, 1) := by decide +kernel
theorem d_C_countSlots_8 : decode prog_1_method_33_code 8 = .ok (.iload_n 2, 1) := by decide +kernel
theorem d_C_countSlots_9 : decode prog_1_method_33_code 9 = .ok (.sipush 262, 3) := by decide +kernel
theorem d_C_countSlots_12 : decode prog_1_method_33_code 12 = .ok (.if_icmp .ge 100, 3) := by decide +kernel
theorem d_C_countSlots_15 : decode prog_1_method_33_code 15 = .ok (.iload_n 2, 1) := by decide +kernel
theorem d_C_countSlots_16 : decode prog_1_method_33_code 16 = .ok (.aload_n 0, 1) := by decide +kernel
theorem d_C_countSlots_17 : decode prog_1_method_33_code 17 = .ok (.getfield 42, 3) := by decide +kernel
theorem d_C_countSlots_20 : decode prog_1_method_33_code 20 = .ok (.getfield 95, 3) := by decide +kernel
theorem d_C_countSlots_23 : decode prog_1_method_33_code 23 = .ok (.if_icmp .ge 89, 3) := by decide +kernel
theorem d_C_countSlots_26 : decode prog_1_method_33_code 26 = .ok (.aload_n 0, 1) := by decide +kernel
theorem d_C_countSlots_27 : decode prog_1_method_33_code 27 = .ok (.getfield 42, 3) := by decide +kernel
theorem d_C_countSlots_30 : decode prog_1_method_33_code 30 = .ok (.iload_n 2, 1) := by decide +kernel
theorem d_C_countSlots_31 : decode prog_1_method_33_code 31 = .ok (.invokevirtual 232, 3) := by decide +kernel
theorem d_C_countSlots_34 : decode prog_1_method_33_code 34 = .ok (.astore_n 3, 1) := by decide +kernel
theorem d_C_countSlots_35 : decode prog_1_method_33_code 35 = .ok (.aload_n 3, 1) := by decide +kernel
theorem d_C_countSlots_36 : decode prog_1_method_33_code 36 = .ok (.ifnonnull 6, 3) := by decide +kernel
theorem d_C_countSlots_39 : decode prog_1_method_33_code 39 = .ok (.goto 67, 3) := by decide +kernel
theorem d_C_countSlots_42 : decode prog_1_method_33_code 42 = .ok (.aload_n 3, 1) := by decide +kernel
theorem d_C_countSlots_43 : decode prog_1_method_33_code 43 = .ok (.invokevirtual 80, 3) := by decide +kernel
theorem d_C_countSlots_46 : decode prog_1_method_33_code 46 = .ok (.ifCond .eq 20, 3) := by decide +kernel
theorem d_C_countSlots_49 : decode prog_1_method_33_code 49 = .ok (.aload_n 3, 1) := by decide +kernel
theorem d_C_countSlots_50 : decode prog_1_method_33_code 50 = .ok (.aload_n 3, 1) := by decide +kernel
theorem d_C_countSlots_51 : decode prog_1_method_33_code 51 = .ok (.getfield 166, 3) := by decide +kernel
theorem d_C_countSlots_54 : decode prog_1_method_33_code 54 = .ok (.iconst 1, 1) := by decide +kernel
theorem d_C_countSlots_55 : decode prog_1_method_33_code 55 = .ok (.iadd, 1) := by decide +kernel
theorem d_C_countSlots_56 : decode prog_1_method_33_code 56 = .ok (.iconst 3, 1) := by decide +kernel
theorem d_C_countSlots_57 : decode prog_1_method_33_code 57 = .ok (.invokestatic 235, 3) := by decide +kernel
theorem d_C_countSlots_60 : decode prog_1_method_33_code 60 = .ok (.putfield 166, 3) := by decide +kernel
theorem d_C_countSlots_63 : decode prog_1_method_33_code 63 = .ok (.goto 43, 3) := by decide +kernel
theorem d_C_countSlots_66 : decode prog_1_method_33_code 66 = .ok (.iinc 1 1, 3) := by decide +kernel
theorem d_C_countSlots_69 : decode prog_1_method_33_code 69 = .ok (.aload_n 3, 1) := by decide +kernel
theorem d_C_countSlots_70 : decode prog_1_method_33_code 70 = .ok (.aload_n 0, 1) := by decide +kernel
theorem d_C_countSlots_71 : decode prog_1_method_33_code 71 = .ok (.getfield 99, 3) := by decide +kernel
theorem d_C_countSlots_74 : decode prog_1_method_33_code 74 = .ok (.ifCond .eq 7, 3) := by decide +kernel
theorem d_C_countSlots_77 : decode prog_1_method_33_code 77 = .ok (.iconst 2, 1) := by decide +kernel
theorem d_C_countSlots_78 : decode prog_1_method_33_code 78 = .ok (.goto 4, 3) := by decide +kernel
theorem d_C_countSlots_81 : decode prog_1_method_33_code 81 = .ok (.iconst 0, 1) := by decide +kernel
theorem d_C_countSlots_82 : decode prog_1_method_33_code 82 = .ok (.invokevirtual 241, 3) := by decide +kernel
theorem d_C_countSlots_85 : decode prog_1_method_33_code 85 = .ok (.aload_n 0, 1) := by decide +kernel
theorem d_C_countSlots_86 : decode prog_1_method_33_code 86 = .ok (.aload_n 3, 1) := by decide +kernel
theorem d_C_countSlots_87 : decode prog_1_method_33_code 87 = .ok (.aload_n 0, 1) := by decide +kernel
theorem d_C_countSlots_88 : decode prog_1_method_33_code 88 = .ok (.getfield 24, 3) := by decide +kernel
theorem d_C_countSlots_91 : decode prog_1_method_33_code 91 = .ok (.aload_n 3, 1) := by decide +kernel
theorem d_C_countSlots_92 : decode prog_1_method_33_code 92 = .ok (.getfield 160, 3) := by decide +kernel
theorem d_C_countSlots_95 : decode prog_1_method_33_code 95 = .ok (.invokevirtual 52, 3) := by decide +kernel
theorem d_C_countSlots_98 : decode prog_1_method_33_code 98 = .ok (.invokevirtual 244, 3) := by decide +kernel
theorem d_C_countSlots_101 : decode prog_1_method_33_code 101 = .ok (.aload_n 0, 1) := by decide +kernel
theorem d_C_countSlots_102 : decode prog_1_method_33_code 102 = .ok (.aload_n 3, 1) := by decide +kernel
theorem d_C_countSlots_103 : decode prog_1_method_33_code 103 = .ok (.invokevirtual 247, 3) := by decide +kernel
theorem d_C_countSlots_106 : decode prog_1_method_33_code 106 = .ok (.iinc 2 1, 3) := by decide +kernel
theorem d_C_countSlots_109 : decode prog_1_method_33_code 109 = .ok (.goto (-101), 3) := by decide +kernel
theorem d_C_countSlots_112 : decode prog_1_method_33_code 112 = .ok (.aload_n 0, 1) := by decide +kernel
theorem d_C_countSlots_113 : decode prog_1_method_33_code 113 = .ok (.getfield 24, 3) := by decide +kernel
theorem d_C_countSlots_116 : decode prog_1_method_33_code 116 = .ok (.invokevirtual 250, 3) := by decide +kernel
theorem d_C_countSlots_119 : decode prog_1_method_33_code 119 = .ok (.iload_n 1, 1) := by decide +kernel
theorem d_C_countSlots_120 : decode prog_1_method_33_code 120 = .ok (.ireturn, 1) := by decide +kernel
theorem d_C_loseYoung_0 : decode prog_1_method_36_code 0 = .ok (.aload_n 0, 1) := by decide +kernel
theorem d_C_loseYoung_1 : decode prog_1_method_36_code 1 = .ok (.getfield 18, 3) := by decide +kernel
theorem d_C_loseYoung_4 : decode prog_1_method_36_code 4 = .ok (.astore_n 1, 1) := by decide +kernel
theorem d_C_loseYoung_5 : decode prog_1_method_36_code 5 = .ok (.aload_n 1, 1) := by decide +kernel
theorem d_C_loseYoung_6 : decode prog_1_method_36_code 6 = .ok (.arraylength, 1) := by decide +kernel
theorem d_C_loseYoung_7 : decode prog_1_method_36_code 7 = .ok (.istore_n 2, 1) := by decide +kernel
theorem d_C_loseYoung_8 : decode prog_1_method_36_code 8 = .ok (.iconst 0, 1) := by decide +kernel
theorem d_C_loseYoung_9 : decode prog_1_method_36_code 9 = .ok (.istore_n 3, 1) := by decide +kernel
theorem d_C_loseYoung_10 : decode prog_1_method_36_code 10 = .ok (.iload_n 3, 1) := by decide +kernel
theorem d_C_loseYoung_11 : decode prog_1_method_36_code 11 = .ok (.iload_n 2, 1) := by decide +kernel
theorem d_C_loseYoung_12 : decode prog_1_method_36_code 12 = .ok (.if_icmp .ge 33, 3) := by decide +kernel
theorem d_C_loseYoung_15 : decode prog_1_method_36_code 15 = .ok (.aload_n 1, 1) := by decide +kernel
theorem d_C_loseYoung_16 : decode prog_1_method_36_code 16 = .ok (.iload_n 3, 1) := by decide +kernel
theorem d_C_loseYoung_17 : decode prog_1_method_36_code 17 = .ok (.aaload, 1) := by decide +kernel
theorem d_C_loseYoung_18 : decode prog_1_method_36_code 18 = .ok (.astore 4, 2) := by decide +kernel
theorem d_C_loseYoung_20 : decode prog_1_method_36_code 20 = .ok (.aload 4, 2) := by decide +kernel
theorem d_C_loseYoung_22 : decode prog_1_method_36_code 22 = .ok (.ifnull 17, 3) := by decide +kernel
theorem d_C_loseYoung_25 : decode prog_1_method_36_code 25 = .ok (.aload 4, 2) := by decide +kernel
theorem d_C_loseYoung_27 : decode prog_1_method_36_code 27 = .ok (.invokevirtual 80, 3) := by decide +kernel
theorem d_C_loseYoung_30 : decode prog_1_method_36_code 30 = .ok (.ifCond .ne 9, 3) := by decide +kernel
theorem d_C_loseYoung_33 : decode prog_1_method_36_code 33 = .ok (.aload_n 0, 1) := by decide +kernel
theorem d_C_loseYoung_34 : decode prog_1_method_36_code 34 = .ok (.aload 4, 2) := by decide +kernel
theorem d_C_loseYoung_36 : decode prog_1_method_36_code 36 = .ok (.invokevirtual 215, 3) := by decide +kernel
theorem d_C_loseYoung_39 : decode prog_1_method_36_code 39 = .ok (.iinc 3 1, 3) := by decide +kernel
theorem d_C_loseYoung_42 : decode prog_1_method_36_code 42 = .ok (.goto (-32), 3) := by decide +kernel
theorem d_C_loseYoung_45 : decode prog_1_method_36_code 45 = .ok (.return_, 1) := by decide +kernel
theorem d_G_heldBefore_0 : decode prog_3_method_4_code 0 = .ok (.aload_n 0, 1) := by decide +kernel
theorem d_G_heldBefore_1 : decode prog_3_method_4_code 1 = .ok (.getfield 21, 3) := by decide +kernel
theorem d_G_heldBefore_4 : decode prog_3_method_4_code 4 = .ok (.iload_n 1, 1) := by decide +kernel
theorem d_G_heldBefore_5 : decode prog_3_method_4_code 5 = .ok (.aaload, 1) := by decide +kernel
theorem d_G_heldBefore_6 : decode prog_3_method_4_code 6 = .ok (.areturn, 1) := by decide +kernel
theorem d_G_clear_0 : decode prog_3_method_5_code 0 = .ok (.iconst 0, 1) := by decide +kernel
theorem d_G_clear_1 : decode prog_3_method_5_code 1 = .ok (.istore_n 1, 1) := by decide +kernel
theorem d_G_clear_2 : decode prog_3_method_5_code 2 = .ok (.iload_n 1, 1) := by decide +kernel
theorem d_G_clear_3 : decode prog_3_method_5_code 3 = .ok (.aload_n 0, 1) := by decide +kernel
theorem d_G_clear_4 : decode prog_3_method_5_code 4 = .ok (.getfield 24, 3) := by decide +kernel
theorem d_G_clear_7 : decode prog_3_method_5_code 7 = .ok (.if_icmp .ge 26, 3) := by decide +kernel
theorem d_G_clear_10 : decode prog_3_method_5_code 10 = .ok (.aload_n 0, 1) := by decide +kernel
theorem d_G_clear_11 : decode prog_3_method_5_code 11 = .ok (.getfield 11, 3) := by decide +kernel
theorem d_G_clear_14 : decode prog_3_method_5_code 14 = .ok (.iload_n 1, 1) := by decide +kernel
theorem d_G_clear_15 : decode prog_3_method_5_code 15 = .ok (.aaload, 1) := by decide +kernel
theorem d_G_clear_16 : decode prog_3_method_5_code 16 = .ok (.getfield 31, 3) := by decide +kernel
theorem d_G_clear_19 : decode prog_3_method_5_code 19 = .ok (.aload_n 0, 1) := by decide +kernel
theorem d_G_clear_20 : decode prog_3_method_5_code 20 = .ok (.getfield 17, 3) := by decide +kernel
theorem d_G_clear_23 : decode prog_3_method_5_code 23 = .ok (.iload_n 1, 1) := by decide +kernel
theorem d_G_clear_24 : decode prog_3_method_5_code 24 = .ok (.iaload, 1) := by decide +kernel
theorem d_G_clear_25 : decode prog_3_method_5_code 25 = .ok (.iconst 0, 1) := by decide +kernel
theorem d_G_clear_26 : decode prog_3_method_5_code 26 = .ok (.bastore, 1) := by decide +kernel
theorem d_G_clear_27 : decode prog_3_method_5_code 27 = .ok (.iinc 1 1, 3) := by decide +kernel
theorem d_G_clear_30 : decode prog_3_method_5_code 30 = .ok (.goto (-28), 3) := by decide +kernel
theorem d_G_clear_33 : decode prog_3_method_5_code 33 = .ok (.aload_n 0, 1) := by decide +kernel
theorem d_G_clear_34 : decode prog_3_method_5_code 34 = .ok (.iconst 0, 1) := by decide +kernel
theorem d_G_clear_35 : decode prog_3_method_5_code 35 = .ok (.putfield 24, 3) := by decide +kernel
theorem d_G_clear_38 : decode prog_3_method_5_code 38 = .ok (.return_, 1) := by decide +kernel
theorem d_C_queueRootsAndLog_0 : decode prog_1_method_37_code 0 = .ok (.aload_n 0, 1) := by decide +kernel
theorem d_C_queueRootsAndLog_1 : decode prog_1_method_37_code 1 = .ok (.getfield 15, 3) := by decide +kernel
theorem d_C_queueRootsAndLog_4 : decode prog_1_method_37_code 4 = .ok (.astore_n 1, 1) := by decide +kernel
theorem d_C_queueRootsAndLog_5 : decode prog_1_method_37_code 5 = .ok (.aload_n 1, 1) := by decide +kernel
theorem d_C_queueRootsAndLog_6 : decode prog_1_method_37_code 6 = .ok (.arraylength, 1) := by decide +kernel
theorem d_C_queueRootsAndLog_7 : decode prog_1_method_37_code 7 = .ok (.istore_n 2, 1) := by decide +kernel
theorem d_C_queueRootsAndLog_8 : decode prog_1_method_37_code 8 = .ok (.iconst 0, 1) := by decide +kernel
theorem d_C_queueRootsAndLog_9 : decode prog_1_method_37_code 9 = .ok (.istore_n 3, 1) := by decide +kernel
theorem d_C_queueRootsAndLog_10 : decode prog_1_method_37_code 10 = .ok (.iload_n 3, 1) := by decide +kernel
theorem d_C_queueRootsAndLog_11 : decode prog_1_method_37_code 11 = .ok (.iload_n 2, 1) := by decide +kernel
theorem d_C_queueRootsAndLog_12 : decode prog_1_method_37_code 12 = .ok (.if_icmp .ge 28, 3) := by decide +kernel
theorem d_C_queueRootsAndLog_15 : decode prog_1_method_37_code 15 = .ok (.aload_n 1, 1) := by decide +kernel
theorem d_C_queueRootsAndLog_16 : decode prog_1_method_37_code 16 = .ok (.iload_n 3, 1) := by decide +kernel
theorem d_C_queueRootsAndLog_17 : decode prog_1_method_37_code 17 = .ok (.aaload, 1) := by decide +kernel
theorem d_C_queueRootsAndLog_18 : decode prog_1_method_37_code 18 = .ok (.astore 4, 2) := by decide +kernel
theorem d_C_queueRootsAndLog_20 : decode prog_1_method_37_code 20 = .ok (.aload 4, 2) := by decide +kernel
theorem d_C_queueRootsAndLog_22 : decode prog_1_method_37_code 22 = .ok (.ifnull 12, 3) := by decide +kernel
theorem d_C_queueRootsAndLog_25 : decode prog_1_method_37_code 25 = .ok (.aload_n 0, 1) := by decide +kernel
theorem d_C_queueRootsAndLog_26 : decode prog_1_method_37_code 26 = .ok (.getfield 38, 3) := by decide +kernel
theorem d_C_queueRootsAndLog_29 : decode prog_1_method_37_code 29 = .ok (.aload 4, 2) := by decide +kernel
theorem d_C_queueRootsAndLog_31 : decode prog_1_method_37_code 31 = .ok (.invokevirtual 218, 3) := by decide +kernel
theorem d_C_queueRootsAndLog_34 : decode prog_1_method_37_code 34 = .ok (.iinc 3 1, 3) := by decide +kernel
theorem d_C_queueRootsAndLog_37 : decode prog_1_method_37_code 37 = .ok (.goto (-27), 3) := by decide +kernel
theorem d_C_queueRootsAndLog_40 : decode prog_1_method_37_code 40 = .ok (.iconst 0, 1) := by decide +kernel
theorem d_C_queueRootsAndLog_41 : decode prog_1_method_37_code 41 = .ok (.istore_n 1, 1) := by decide +kernel
theorem d_C_queueRootsAndLog_42 : decode prog_1_method_37_code 42 = .ok (.iload_n 1, 1) := by decide +kernel
theorem d_C_queueRootsAndLog_43 : decode prog_1_method_37_code 43 = .ok (.aload_n 0, 1) := by decide +kernel
theorem d_C_queueRootsAndLog_44 : decode prog_1_method_37_code 44 = .ok (.getfield 31, 3) := by decide +kernel
theorem d_C_queueRootsAndLog_47 : decode prog_1_method_37_code 47 = .ok (.getfield 184, 3) := by decide +kernel
theorem d_C_queueRootsAndLog_50 : decode prog_1_method_37_code 50 = .ok (.if_icmp .ge 44, 3) := by decide +kernel
theorem d_C_queueRootsAndLog_53 : decode prog_1_method_37_code 53 = .ok (.aload_n 0, 1) := by decide +kernel
theorem d_C_queueRootsAndLog_54 : decode prog_1_method_37_code 54 = .ok (.getfield 31, 3) := by decide +kernel
theorem d_C_queueRootsAndLog_57 : decode prog_1_method_37_code 57 = .ok (.iload_n 1, 1) := by decide +kernel
theorem d_C_queueRootsAndLog_58 : decode prog_1_method_37_code 58 = .ok (.invokevirtual 259, 3) := by decide +kernel
theorem d_C_queueRootsAndLog_61 : decode prog_1_method_37_code 61 = .ok (.astore_n 2, 1) := by decide +kernel
theorem d_C_queueRootsAndLog_62 : decode prog_1_method_37_code 62 = .ok (.aload_n 2, 1) := by decide +kernel
theorem d_C_queueRootsAndLog_63 : decode prog_1_method_37_code 63 = .ok (.ifnonnull 6, 3) := by decide +kernel
theorem d_C_queueRootsAndLog_66 : decode prog_1_method_37_code 66 = .ok (.goto 22, 3) := by decide +kernel
theorem d_C_queueRootsAndLog_69 : decode prog_1_method_37_code 69 = .ok (.aload_n 0, 1) := by decide +kernel
theorem d_C_queueRootsAndLog_70 : decode prog_1_method_37_code 70 = .ok (.getfield 38, 3) := by decide +kernel
theorem d_C_queueRootsAndLog_73 : decode prog_1_method_37_code 73 = .ok (.aload_n 2, 1) := by decide +kernel
theorem d_C_queueRootsAndLog_74 : decode prog_1_method_37_code 74 = .ok (.invokevirtual 218, 3) := by decide +kernel
theorem d_C_queueRootsAndLog_77 : decode prog_1_method_37_code 77 = .ok (.aload_n 0, 1) := by decide +kernel
theorem d_C_queueRootsAndLog_78 : decode prog_1_method_37_code 78 = .ok (.getfield 99, 3) := by decide +kernel
theorem d_C_queueRootsAndLog_81 : decode prog_1_method_37_code 81 = .ok (.ifCond .eq 7, 3) := by decide +kernel
theorem d_C_queueRootsAndLog_84 : decode prog_1_method_37_code 84 = .ok (.aload_n 2, 1) := by decide +kernel
theorem d_C_queueRootsAndLog_85 : decode prog_1_method_37_code 85 = .ok (.invokevirtual 220, 3) := by decide +kernel
theorem d_C_queueRootsAndLog_88 : decode prog_1_method_37_code 88 = .ok (.iinc 1 1, 3) := by decide +kernel
theorem d_C_queueRootsAndLog_91 : decode prog_1_method_37_code 91 = .ok (.goto (-49), 3) := by decide +kernel
theorem d_C_queueRootsAndLog_94 : decode prog_1_method_37_code 94 = .ok (.aload_n 0, 1) := by decide +kernel
theorem d_C_queueRootsAndLog_95 : decode prog_1_method_37_code 95 = .ok (.getfield 31, 3) := by decide +kernel
theorem d_C_queueRootsAndLog_98 : decode prog_1_method_37_code 98 = .ok (.invokevirtual 262, 3) := by decide +kernel
theorem d_C_queueRootsAndLog_101 : decode prog_1_method_37_code 101 = .ok (.return_, 1) := by decide +kernel
theorem d_C_rememberRoots_0 : decode prog_1_method_31_code 0 = .ok (.iconst 0, 1) := by decide +kernel
theorem d_C_rememberRoots_1 : decode prog_1_method_31_code 1 = .ok (.istore_n 1, 1) := by decide +kernel
theorem d_C_rememberRoots_2 : decode prog_1_method_31_code 2 = .ok (.iload_n 1, 1) := by decide +kernel
theorem d_C_rememberRoots_3 : decode prog_1_method_31_code 3 = .ok (.bipush 6, 2) := by decide +kernel
theorem d_C_rememberRoots_5 : decode prog_1_method_31_code 5 = .ok (.if_icmp .ge 21, 3) := by decide +kernel
theorem d_C_rememberRoots_8 : decode prog_1_method_31_code 8 = .ok (.aload_n 0, 1) := by decide +kernel
theorem d_C_rememberRoots_9 : decode prog_1_method_31_code 9 = .ok (.getfield 15, 3) := by decide +kernel
theorem d_C_rememberRoots_12 : decode prog_1_method_31_code 12 = .ok (.iload_n 1, 1) := by decide +kernel
theorem d_C_rememberRoots_13 : decode prog_1_method_31_code 13 = .ok (.aload_n 0, 1) := by decide +kernel
theorem d_C_rememberRoots_14 : decode prog_1_method_31_code 14 = .ok (.getfield 11, 3) := by decide +kernel
theorem d_C_rememberRoots_17 : decode prog_1_method_31_code 17 = .ok (.iload_n 1, 1) := by decide +kernel
theorem d_C_rememberRoots_18 : decode prog_1_method_31_code 18 = .ok (.aaload, 1) := by decide +kernel
theorem d_C_rememberRoots_19 : decode prog_1_method_31_code 19 = .ok (.aastore, 1) := by decide +kernel
theorem d_C_rememberRoots_20 : decode prog_1_method_31_code 20 = .ok (.iinc 1 1, 3) := by decide +kernel
theorem d_C_rememberRoots_23 : decode prog_1_method_31_code 23 = .ok (.goto (-21), 3) := by decide +kernel
theorem d_C_rememberRoots_26 : decode prog_1_method_31_code 26 = .ok (.return_, 1) := by decide +kernel
theorem d_C_beginTrace_0 : decode prog_1_method_32_code 0 = .ok (.aload_n 0, 1) := by decide +kernel
theorem d_C_beginTrace_1 : decode prog_1_method_32_code 1 = .ok (.iconst 1, 1) := by decide +kernel
theorem d_C_beginTrace_2 : decode prog_1_method_32_code 2 = .ok (.putfield 99, 3) := by decide +kernel
theorem d_C_beginTrace_5 : decode prog_1_method_32_code 5 = .ok (.aload_n 0, 1) := by decide +kernel
theorem d_C_beginTrace_6 : decode prog_1_method_32_code 6 = .ok (.getfield 11, 3) := by decide +kernel
theorem d_C_beginTrace_9 : decode prog_1_method_32_code 9 = .ok (.astore_n 1, 1) := by decide +kernel
theorem d_C_beginTrace_10 : decode prog_1_method_32_code 10 = .ok (.aload_n 1, 1) := by decide +kernel
theorem d_C_beginTrace_11 : decode prog_1_method_32_code 11 = .ok (.arraylength, 1) := by decide +kernel
theorem d_C_beginTrace_12 : decode prog_1_method_32_code 12 = .ok (.istore_n 2, 1) := by decide +kernel
theorem d_C_beginTrace_13 : decode prog_1_method_32_code 13 = .ok (.iconst 0, 1) := by decide +kernel
theorem d_C_beginTrace_14 : decode prog_1_method_32_code 14 = .ok (.istore_n 3, 1) := by decide +kernel
theorem d_C_beginTrace_15 : decode prog_1_method_32_code 15 = .ok (.iload_n 3, 1) := by decide +kernel
theorem d_C_beginTrace_16 : decode prog_1_method_32_code 16 = .ok (.iload_n 2, 1) := by decide +kernel
theorem d_C_beginTrace_17 : decode prog_1_method_32_code 17 = .ok (.if_icmp .ge 24, 3) := by decide +kernel
theorem d_C_beginTrace_20 : decode prog_1_method_32_code 20 = .ok (.aload_n 1, 1) := by decide +kernel
theorem d_C_beginTrace_21 : decode prog_1_method_32_code 21 = .ok (.iload_n 3, 1) := by decide +kernel
theorem d_C_beginTrace_22 : decode prog_1_method_32_code 22 = .ok (.aaload, 1) := by decide +kernel
theorem d_C_beginTrace_23 : decode prog_1_method_32_code 23 = .ok (.astore 4, 2) := by decide +kernel
theorem d_C_beginTrace_25 : decode prog_1_method_32_code 25 = .ok (.aload 4, 2) := by decide +kernel
theorem d_C_beginTrace_27 : decode prog_1_method_32_code 27 = .ok (.ifnull 8, 3) := by decide +kernel
theorem d_C_beginTrace_30 : decode prog_1_method_32_code 30 = .ok (.aload 4, 2) := by decide +kernel
theorem d_C_beginTrace_32 : decode prog_1_method_32_code 32 = .ok (.invokevirtual 220, 3) := by decide +kernel
theorem d_C_beginTrace_35 : decode prog_1_method_32_code 35 = .ok (.iinc 3 1, 3) := by decide +kernel
theorem d_C_beginTrace_38 : decode prog_1_method_32_code 38 = .ok (.goto (-23), 3) := by decide +kernel
theorem d_C_beginTrace_41 : decode prog_1_method_32_code 41 = .ok (.return_, 1) := by decide +kernel
theorem d_C_countGrey_0 : decode prog_1_method_21_code 0 = .ok (.iconst 0, 1) := by decide +kernel
theorem d_C_countGrey_1 : decode prog_1_method_21_code 1 = .ok (.istore_n 1, 1) := by decide +kernel
theorem d_C_countGrey_2 : decode prog_1_method_21_code 2 = .ok (.aload_n 0, 1) := by decide +kernel
theorem d_C_countGrey_3 : decode prog_1_method_21_code 3 = .ok (.getfield 18, 3) := by decide +kernel
theorem d_C_countGrey_6 : decode prog_1_method_21_code 6 = .ok (.astore_n 2, 1) := by decide +kernel
theorem d_C_countGrey_7 : decode prog_1_method_21_code 7 = .ok (.aload_n 2, 1) := by decide +kernel
theorem d_C_countGrey_8 : decode prog_1_method_21_code 8 = .ok (.arraylength, 1) := by decide +kernel
theorem d_C_countGrey_9 : decode prog_1_method_21_code 9 = .ok (.istore_n 3, 1) := by decide +kernel
theorem d_C_countGrey_10 : decode prog_1_method_21_code 10 = .ok (.iconst 0, 1) := by decide +kernel
theorem d_C_countGrey_11 : decode prog_1_method_21_code 11 = .ok (.istore 4, 2) := by decide +kernel
theorem d_C_countGrey_13 : decode prog_1_method_21_code 13 = .ok (.iload 4, 2) := by decide +kernel
theorem d_C_countGrey_15 : decode prog_1_method_21_code 15 = .ok (.iload_n 3, 1) := by decide +kernel
theorem d_C_countGrey_16 : decode prog_1_method_21_code 16 = .ok (.if_icmp .ge 32, 3) := by decide +kernel
theorem d_C_countGrey_19 : decode prog_1_method_21_code 19 = .ok (.aload_n 2, 1) := by decide +kernel
theorem d_C_countGrey_20 : decode prog_1_method_21_code 20 = .ok (.iload 4, 2) := by decide +kernel
theorem d_C_countGrey_22 : decode prog_1_method_21_code 22 = .ok (.aaload, 1) := by decide +kernel
theorem d_C_countGrey_23 : decode prog_1_method_21_code 23 = .ok (.astore 5, 2) := by decide +kernel
theorem d_C_countGrey_25 : decode prog_1_method_21_code 25 = .ok (.aload 5, 2) := by decide +kernel
theorem d_C_countGrey_27 : decode prog_1_method_21_code 27 = .ok (.ifnull 15, 3) := by decide +kernel
theorem d_C_countGrey_30 : decode prog_1_method_21_code 30 = .ok (.aload 5, 2) := by decide +kernel
theorem d_C_countGrey_32 : decode prog_1_method_21_code 32 = .ok (.getfield 169, 3) := by decide +kernel
theorem d_C_countGrey_35 : decode prog_1_method_21_code 35 = .ok (.iconst 1, 1) := by decide +kernel
theorem d_C_countGrey_36 : decode prog_1_method_21_code 36 = .ok (.if_icmp .ne 6, 3) := by decide +kernel
theorem d_C_countGrey_39 : decode prog_1_method_21_code 39 = .ok (.iinc 1 1, 3) := by decide +kernel
theorem d_C_countGrey_42 : decode prog_1_method_21_code 42 = .ok (.iinc 4 1, 3) := by decide +kernel
theorem d_C_countGrey_45 : decode prog_1_method_21_code 45 = .ok (.goto (-32), 3) := by decide +kernel
theorem d_C_countGrey_48 : decode prog_1_method_21_code 48 = .ok (.iload_n 1, 1) := by decide +kernel
theorem d_C_countGrey_49 : decode prog_1_method_21_code 49 = .ok (.ireturn, 1) := by decide +kernel
theorem d_C_loseWhite_0 : decode prog_1_method_38_code 0 = .ok (.aload_n 0, 1) := by decide +kernel
theorem d_C_loseWhite_1 : decode prog_1_method_38_code 1 = .ok (.getfield 18, 3) := by decide +kernel
theorem d_C_loseWhite_4 : decode prog_1_method_38_code 4 = .ok (.astore_n 1, 1) := by decide +kernel
theorem d_C_loseWhite_5 : decode prog_1_method_38_code 5 = .ok (.aload_n 1, 1) := by decide +kernel
theorem d_C_loseWhite_6 : decode prog_1_method_38_code 6 = .ok (.arraylength, 1) := by decide +kernel
theorem d_C_loseWhite_7 : decode prog_1_method_38_code 7 = .ok (.istore_n 2, 1) := by decide +kernel
theorem d_C_loseWhite_8 : decode prog_1_method_38_code 8 = .ok (.iconst 0, 1) := by decide +kernel
theorem d_C_loseWhite_9 : decode prog_1_method_38_code 9 = .ok (.istore_n 3, 1) := by decide +kernel
theorem d_C_loseWhite_10 : decode prog_1_method_38_code 10 = .ok (.iload_n 3, 1) := by decide +kernel
theorem d_C_loseWhite_11 : decode prog_1_method_38_code 11 = .ok (.iload_n 2, 1) := by decide +kernel
theorem d_C_loseWhite_12 : decode prog_1_method_38_code 12 = .ok (.if_icmp .ge 103, 3) := by decide +kernel
theorem d_C_loseWhite_15 : decode prog_1_method_38_code 15 = .ok (.aload_n 1, 1) := by decide +kernel
theorem d_C_loseWhite_16 : decode prog_1_method_38_code 16 = .ok (.iload_n 3, 1) := by decide +kernel
theorem d_C_loseWhite_17 : decode prog_1_method_38_code 17 = .ok (.aaload, 1) := by decide +kernel
theorem d_C_loseWhite_18 : decode prog_1_method_38_code 18 = .ok (.astore 4, 2) := by decide +kernel
theorem d_C_loseWhite_20 : decode prog_1_method_38_code 20 = .ok (.aload 4, 2) := by decide +kernel
theorem d_C_loseWhite_22 : decode prog_1_method_38_code 22 = .ok (.ifnull 87, 3) := by decide +kernel
theorem d_C_loseWhite_25 : decode prog_1_method_38_code 25 = .ok (.aload 4, 2) := by decide +kernel
theorem d_C_loseWhite_27 : decode prog_1_method_38_code 27 = .ok (.invokevirtual 263, 3) := by decide +kernel
theorem d_C_loseWhite_30 : decode prog_1_method_38_code 30 = .ok (.ifCond .ne 6, 3) := by decide +kernel
theorem d_C_loseWhite_33 : decode prog_1_method_38_code 33 = .ok (.goto 76, 3) := by decide +kernel
theorem d_C_loseWhite_36 : decode prog_1_method_38_code 36 = .ok (.aload_n 0, 1) := by decide +kernel
theorem d_C_loseWhite_37 : decode prog_1_method_38_code 37 = .ok (.aload 4, 2) := by decide +kernel
theorem d_C_loseWhite_39 : decode prog_1_method_38_code 39 = .ok (.invokevirtual 215, 3) := by decide +kernel
theorem d_C_loseWhite_42 : decode prog_1_method_38_code 42 = .ok (.aload_n 0, 1) := by decide +kernel
theorem d_C_loseWhite_43 : decode prog_1_method_38_code 43 = .ok (.dup, 1) := by decide +kernel
theorem d_C_loseWhite_44 : decode prog_1_method_38_code 44 = .ok (.getfield 188, 3) := by decide +kernel
theorem d_C_loseWhite_47 : decode prog_1_method_38_code 47 = .ok (.iconst 1, 1) := by decide +kernel
theorem d_C_loseWhite_48 : decode prog_1_method_38_code 48 = .ok (.iadd, 1) := by decide +kernel
theorem d_C_loseWhite_49 : decode prog_1_method_38_code 49 = .ok (.putfield 188, 3) := by decide +kernel
theorem d_C_loseWhite_52 : decode prog_1_method_38_code 52 = .ok (.aload 4, 2) := by decide +kernel
theorem d_C_loseWhite_54 : decode prog_1_method_38_code 54 = .ok (.getfield 73, 3) := by decide +kernel
theorem d_C_loseWhite_57 : decode prog_1_method_38_code 57 = .ok (.astore 5, 2) := by decide +kernel
theorem d_C_loseWhite_59 : decode prog_1_method_38_code 59 = .ok (.aload 5, 2) := by decide +kernel
theorem d_C_loseWhite_61 : decode prog_1_method_38_code 61 = .ok (.arraylength, 1) := by decide +kernel
theorem d_C_loseWhite_62 : decode prog_1_method_38_code 62 = .ok (.istore 6, 2) := by decide +kernel
theorem d_C_loseWhite_64 : decode prog_1_method_38_code 64 = .ok (.iconst 0, 1) := by decide +kernel
theorem d_C_loseWhite_65 : decode prog_1_method_38_code 65 = .ok (.istore 7, 2) := by decide +kernel
theorem d_C_loseWhite_67 : decode prog_1_method_38_code 67 = .ok (.iload 7, 2) := by decide +kernel
theorem d_C_loseWhite_69 : decode prog_1_method_38_code 69 = .ok (.iload 6, 2) := by decide +kernel
theorem d_C_loseWhite_71 : decode prog_1_method_38_code 71 = .ok (.if_icmp .ge 38, 3) := by decide +kernel
theorem d_C_loseWhite_74 : decode prog_1_method_38_code 74 = .ok (.aload 5, 2) := by decide +kernel
theorem d_C_loseWhite_76 : decode prog_1_method_38_code 76 = .ok (.iload 7, 2) := by decide +kernel
theorem d_C_loseWhite_78 : decode prog_1_method_38_code 78 = .ok (.aaload, 1) := by decide +kernel
theorem d_C_loseWhite_79 : decode prog_1_method_38_code 79 = .ok (.astore 8, 2) := by decide +kernel
theorem d_C_loseWhite_81 : decode prog_1_method_38_code 81 = .ok (.aload 8, 2) := by decide +kernel
theorem d_C_loseWhite_83 : decode prog_1_method_38_code 83 = .ok (.ifnull 20, 3) := by decide +kernel
theorem d_C_loseWhite_86 : decode prog_1_method_38_code 86 = .ok (.aload 8, 2) := by decide +kernel
theorem d_C_loseWhite_88 : decode prog_1_method_38_code 88 = .ok (.invokevirtual 263, 3) := by decide +kernel
theorem d_C_loseWhite_91 : decode prog_1_method_38_code 91 = .ok (.ifCond .ne 12, 3) := by decide +kernel
theorem d_C_loseWhite_94 : decode prog_1_method_38_code 94 = .ok (.aload_n 0, 1) := by decide +kernel
theorem d_C_loseWhite_95 : decode prog_1_method_38_code 95 = .ok (.getfield 38, 3) := by decide +kernel
theorem d_C_loseWhite_98 : decode prog_1_method_38_code 98 = .ok (.aload 8, 2) := by decide +kernel
theorem d_C_loseWhite_100 : decode prog_1_method_38_code 100 = .ok (.invokevirtual 218, 3) := by decide +kernel
theorem d_C_loseWhite_103 : decode prog_1_method_38_code 103 = .ok (.iinc 7 1, 3) := by decide +kernel
theorem d_C_loseWhite_106 : decode prog_1_method_38_code 106 = .ok (.goto (-39), 3) := by decide +kernel
theorem d_C_loseWhite_109 : decode prog_1_method_38_code 109 = .ok (.iinc 3 1, 3) := by decide +kernel
theorem d_C_loseWhite_112 : decode prog_1_method_38_code 112 = .ok (.goto (-102), 3) := by decide +kernel
theorem d_C_loseWhite_115 : decode prog_1_method_38_code 115 = .ok (.return_, 1) := by decide +kernel
theorem d_W_countOf_0 : decode prog_5_method_5_code 0 = .ok (.iconst 0, 1) := by decide +kernel
theorem d_W_countOf_1 : decode prog_5_method_5_code 1 = .ok (.istore_n 2, 1) := by decide +kernel
theorem d_W_countOf_2 : decode prog_5_method_5_code 2 = .ok (.iconst 0, 1) := by decide +kernel
theorem d_W_countOf_3 : decode prog_5_method_5_code 3 = .ok (.istore_n 3, 1) := by decide +kernel
theorem d_W_countOf_4 : decode prog_5_method_5_code 4 = .ok (.iload_n 3, 1) := by decide +kernel
theorem d_W_countOf_5 : decode prog_5_method_5_code 5 = .ok (.aload_n 0, 1) := by decide +kernel
theorem d_W_countOf_6 : decode prog_5_method_5_code 6 = .ok (.getfield 17, 3) := by decide +kernel
theorem d_W_countOf_9 : decode prog_5_method_5_code 9 = .ok (.if_icmp .ge 31, 3) := by decide +kernel
theorem d_W_countOf_12 : decode prog_5_method_5_code 12 = .ok (.aload_n 0, 1) := by decide +kernel
theorem d_W_countOf_13 : decode prog_5_method_5_code 13 = .ok (.getfield 11, 3) := by decide +kernel
theorem d_W_countOf_16 : decode prog_5_method_5_code 16 = .ok (.aload_n 0, 1) := by decide +kernel
theorem d_W_countOf_17 : decode prog_5_method_5_code 17 = .ok (.getfield 21, 3) := by decide +kernel
theorem d_W_countOf_20 : decode prog_5_method_5_code 20 = .ok (.iload_n 3, 1) := by decide +kernel
theorem d_W_countOf_21 : decode prog_5_method_5_code 21 = .ok (.iadd, 1) := by decide +kernel
theorem d_W_countOf_22 : decode prog_5_method_5_code 22 = .ok (.sipush 262, 3) := by decide +kernel
theorem d_W_countOf_25 : decode prog_5_method_5_code 25 = .ok (.irem, 1) := by decide +kernel
theorem d_W_countOf_26 : decode prog_5_method_5_code 26 = .ok (.aaload, 1) := by decide +kernel
theorem d_W_countOf_27 : decode prog_5_method_5_code 27 = .ok (.aload_n 1, 1) := by decide +kernel
theorem d_W_countOf_28 : decode prog_5_method_5_code 28 = .ok (.if_acmp .ne 6, 3) := by decide +kernel
theorem d_W_countOf_31 : decode prog_5_method_5_code 31 = .ok (.iinc 2 1, 3) := by decide +kernel
theorem d_W_countOf_34 : decode prog_5_method_5_code 34 = .ok (.iinc 3 1, 3) := by decide +kernel
theorem d_W_countOf_37 : decode prog_5_method_5_code 37 = .ok (.goto (-33), 3) := by decide +kernel
theorem d_W_countOf_40 : decode prog_5_method_5_code 40 = .ok (.iload_n 2, 1) := by decide +kernel
theorem d_W_countOf_41 : decode prog_5_method_5_code 41 = .ok (.ireturn, 1) := by decide +kernel
theorem d_I_countFieldsHolding_0 : decode prog_2_method_7_code 0 = .ok (.iconst 0, 1) := by decide +kernel
theorem d_I_countFieldsHolding_1 : decode prog_2_method_7_code 1 = .ok (.istore_n 2, 1) := by decide +kernel
theorem d_I_countFieldsHolding_2 : decode prog_2_method_7_code 2 = .ok (.aload_n 0, 1) := by decide +kernel
theorem d_I_countFieldsHolding_3 : decode prog_2_method_7_code 3 = .ok (.getfield 18, 3) := by decide +kernel
theorem d_I_countFieldsHolding_6 : decode prog_2_method_7_code 6 = .ok (.astore_n 3, 1) := by decide +kernel
theorem d_I_countFieldsHolding_7 : decode prog_2_method_7_code 7 = .ok (.aload_n 3, 1) := by decide +kernel
theorem d_I_countFieldsHolding_8 : decode prog_2_method_7_code 8 = .ok (.arraylength, 1) := by decide +kernel
theorem d_I_countFieldsHolding_9 : decode prog_2_method_7_code 9 = .ok (.istore 4, 2) := by decide +kernel
theorem d_I_countFieldsHolding_11 : decode prog_2_method_7_code 11 = .ok (.iconst 0, 1) := by decide +kernel
theorem d_I_countFieldsHolding_12 : decode prog_2_method_7_code 12 = .ok (.istore 5, 2) := by decide +kernel
theorem d_I_countFieldsHolding_14 : decode prog_2_method_7_code 14 = .ok (.iload 5, 2) := by decide +kernel
theorem d_I_countFieldsHolding_16 : decode prog_2_method_7_code 16 = .ok (.iload 4, 2) := by decide +kernel
theorem d_I_countFieldsHolding_18 : decode prog_2_method_7_code 18 = .ok (.if_icmp .ge 24, 3) := by decide +kernel
theorem d_I_countFieldsHolding_21 : decode prog_2_method_7_code 21 = .ok (.aload_n 3, 1) := by decide +kernel
theorem d_I_countFieldsHolding_22 : decode prog_2_method_7_code 22 = .ok (.iload 5, 2) := by decide +kernel
theorem d_I_countFieldsHolding_24 : decode prog_2_method_7_code 24 = .ok (.aaload, 1) := by decide +kernel
theorem d_I_countFieldsHolding_25 : decode prog_2_method_7_code 25 = .ok (.astore 6, 2) := by decide +kernel
theorem d_I_countFieldsHolding_27 : decode prog_2_method_7_code 27 = .ok (.aload 6, 2) := by decide +kernel
theorem d_I_countFieldsHolding_29 : decode prog_2_method_7_code 29 = .ok (.aload_n 1, 1) := by decide +kernel
theorem d_I_countFieldsHolding_30 : decode prog_2_method_7_code 30 = .ok (.if_acmp .ne 6, 3) := by decide +kernel
theorem d_I_countFieldsHolding_33 : decode prog_2_method_7_code 33 = .ok (.iinc 2 1, 3) := by decide +kernel
theorem d_I_countFieldsHolding_36 : decode prog_2_method_7_code 36 = .ok (.iinc 5 1, 3) := by decide +kernel
theorem d_I_countFieldsHolding_39 : decode prog_2_method_7_code 39 = .ok (.goto (-25), 3) := by decide +kernel
theorem d_I_countFieldsHolding_42 : decode prog_2_method_7_code 42 = .ok (.iload_n 2, 1) := by decide +kernel
theorem d_I_countFieldsHolding_43 : decode prog_2_method_7_code 43 = .ok (.ireturn, 1) := by decide +kernel
theorem d_C_countHolders_0 : decode prog_1_method_40_code 0 = .ok (.aload_n 0, 1) := by decide +kernel
theorem d_C_countHolders_1 : decode prog_1_method_40_code 1 = .ok (.getfield 38, 3) := by decide +kernel
theorem d_C_countHolders_4 : decode prog_1_method_40_code 4 = .ok (.aload_n 1, 1) := by decide +kernel
theorem d_C_countHolders_5 : decode prog_1_method_40_code 5 = .ok (.invokevirtual 269, 3) := by decide +kernel
theorem d_C_countHolders_8 : decode prog_1_method_40_code 8 = .ok (.istore_n 2, 1) := by decide +kernel
theorem d_C_countHolders_9 : decode prog_1_method_40_code 9 = .ok (.aload_n 0, 1) := by decide +kernel
theorem d_C_countHolders_10 : decode prog_1_method_40_code 10 = .ok (.getfield 11, 3) := by decide +kernel
theorem d_C_countHolders_13 : decode prog_1_method_40_code 13 = .ok (.astore_n 3, 1) := by decide +kernel
theorem d_C_countHolders_14 : decode prog_1_method_40_code 14 = .ok (.aload_n 3, 1) := by decide +kernel
theorem d_C_countHolders_15 : decode prog_1_method_40_code 15 = .ok (.arraylength, 1) := by decide +kernel
theorem d_C_countHolders_16 : decode prog_1_method_40_code 16 = .ok (.istore 4, 2) := by decide +kernel
theorem d_C_countHolders_18 : decode prog_1_method_40_code 18 = .ok (.iconst 0, 1) := by decide +kernel
theorem d_C_countHolders_19 : decode prog_1_method_40_code 19 = .ok (.istore 5, 2) := by decide +kernel
theorem d_C_countHolders_21 : decode prog_1_method_40_code 21 = .ok (.iload 5, 2) := by decide +kernel
theorem d_C_countHolders_23 : decode prog_1_method_40_code 23 = .ok (.iload 4, 2) := by decide +kernel
theorem d_C_countHolders_25 : decode prog_1_method_40_code 25 = .ok (.if_icmp .ge 24, 3) := by decide +kernel
theorem d_C_countHolders_28 : decode prog_1_method_40_code 28 = .ok (.aload_n 3, 1) := by decide +kernel
theorem d_C_countHolders_29 : decode prog_1_method_40_code 29 = .ok (.iload 5, 2) := by decide +kernel
theorem d_C_countHolders_31 : decode prog_1_method_40_code 31 = .ok (.aaload, 1) := by decide +kernel
theorem d_C_countHolders_32 : decode prog_1_method_40_code 32 = .ok (.astore 6, 2) := by decide +kernel
theorem d_C_countHolders_34 : decode prog_1_method_40_code 34 = .ok (.aload 6, 2) := by decide +kernel
theorem d_C_countHolders_36 : decode prog_1_method_40_code 36 = .ok (.aload_n 1, 1) := by decide +kernel
theorem d_C_countHolders_37 : decode prog_1_method_40_code 37 = .ok (.if_acmp .ne 6, 3) := by decide +kernel
theorem d_C_countHolders_40 : decode prog_1_method_40_code 40 = .ok (.iinc 2 1, 3) := by decide +kernel
theorem d_C_countHolders_43 : decode prog_1_method_40_code 43 = .ok (.iinc 5 1, 3) := by decide +kernel
theorem d_C_countHolders_46 : decode prog_1_method_40_code 46 = .ok (.goto (-25), 3) := by decide +kernel
theorem d_C_countHolders_49 : decode prog_1_method_40_code 49 = .ok (.aload_n 0, 1) := by decide +kernel
theorem d_C_countHolders_50 : decode prog_1_method_40_code 50 = .ok (.getfield 18, 3) := by decide +kernel
theorem d_C_countHolders_53 : decode prog_1_method_40_code 53 = .ok (.astore_n 3, 1) := by decide +kernel
theorem d_C_countHolders_54 : decode prog_1_method_40_code 54 = .ok (.aload_n 3, 1) := by decide +kernel
theorem d_C_countHolders_55 : decode prog_1_method_40_code 55 = .ok (.arraylength, 1) := by decide +kernel
theorem d_C_countHolders_56 : decode prog_1_method_40_code 56 = .ok (.istore 4, 2) := by decide +kernel
theorem d_C_countHolders_58 : decode prog_1_method_40_code 58 = .ok (.iconst 0, 1) := by decide +kernel
theorem d_C_countHolders_59 : decode prog_1_method_40_code 59 = .ok (.istore 5, 2) := by decide +kernel
theorem d_C_countHolders_61 : decode prog_1_method_40_code 61 = .ok (.iload 5, 2) := by decide +kernel
theorem d_C_countHolders_63 : decode prog_1_method_40_code 63 = .ok (.iload 4, 2) := by decide +kernel
theorem d_C_countHolders_65 : decode prog_1_method_40_code 65 = .ok (.if_icmp .ge 29, 3) := by decide +kernel
theorem d_C_countHolders_68 : decode prog_1_method_40_code 68 = .ok (.aload_n 3, 1) := by decide +kernel
theorem d_C_countHolders_69 : decode prog_1_method_40_code 69 = .ok (.iload 5, 2) := by decide +kernel
theorem d_C_countHolders_71 : decode prog_1_method_40_code 71 = .ok (.aaload, 1) := by decide +kernel
theorem d_C_countHolders_72 : decode prog_1_method_40_code 72 = .ok (.astore 6, 2) := by decide +kernel
theorem d_C_countHolders_74 : decode prog_1_method_40_code 74 = .ok (.aload 6, 2) := by decide +kernel
theorem d_C_countHolders_76 : decode prog_1_method_40_code 76 = .ok (.ifnull 12, 3) := by decide +kernel
theorem d_C_countHolders_79 : decode prog_1_method_40_code 79 = .ok (.iload_n 2, 1) := by decide +kernel
theorem d_C_countHolders_80 : decode prog_1_method_40_code 80 = .ok (.aload 6, 2) := by decide +kernel
theorem d_C_countHolders_82 : decode prog_1_method_40_code 82 = .ok (.aload_n 1, 1) := by decide +kernel
theorem d_C_countHolders_83 : decode prog_1_method_40_code 83 = .ok (.invokevirtual 272, 3) := by decide +kernel
theorem d_C_countHolders_86 : decode prog_1_method_40_code 86 = .ok (.iadd, 1) := by decide +kernel
theorem d_C_countHolders_87 : decode prog_1_method_40_code 87 = .ok (.istore_n 2, 1) := by decide +kernel
theorem d_C_countHolders_88 : decode prog_1_method_40_code 88 = .ok (.iinc 5 1, 3) := by decide +kernel
theorem d_C_countHolders_91 : decode prog_1_method_40_code 91 = .ok (.goto (-30), 3) := by decide +kernel
theorem d_C_countHolders_94 : decode prog_1_method_40_code 94 = .ok (.iload_n 2, 1) := by decide +kernel
theorem d_C_countHolders_95 : decode prog_1_method_40_code 95 = .ok (.ireturn, 1) := by decide +kernel
theorem d_C_recountStuck_0 : decode prog_1_method_39_code 0 = .ok (.aload_n 0, 1) := by decide +kernel
theorem d_C_recountStuck_1 : decode prog_1_method_39_code 1 = .ok (.getfield 18, 3) := by decide +kernel
theorem d_C_recountStuck_4 : decode prog_1_method_39_code 4 = .ok (.astore_n 1, 1) := by decide +kernel
theorem d_C_recountStuck_5 : decode prog_1_method_39_code 5 = .ok (.aload_n 1, 1) := by decide +kernel
theorem d_C_recountStuck_6 : decode prog_1_method_39_code 6 = .ok (.arraylength, 1) := by decide +kernel
theorem d_C_recountStuck_7 : decode prog_1_method_39_code 7 = .ok (.istore_n 2, 1) := by decide +kernel
theorem d_C_recountStuck_8 : decode prog_1_method_39_code 8 = .ok (.iconst 0, 1) := by decide +kernel
theorem d_C_recountStuck_9 : decode prog_1_method_39_code 9 = .ok (.istore_n 3, 1) := by decide +kernel
theorem d_C_recountStuck_10 : decode prog_1_method_39_code 10 = .ok (.iload_n 3, 1) := by decide +kernel
theorem d_C_recountStuck_11 : decode prog_1_method_39_code 11 = .ok (.iload_n 2, 1) := by decide +kernel
theorem d_C_recountStuck_12 : decode prog_1_method_39_code 12 = .ok (.if_icmp .ge 60, 3) := by decide +kernel
theorem d_C_recountStuck_15 : decode prog_1_method_39_code 15 = .ok (.aload_n 1, 1) := by decide +kernel
theorem d_C_recountStuck_16 : decode prog_1_method_39_code 16 = .ok (.iload_n 3, 1) := by decide +kernel
theorem d_C_recountStuck_17 : decode prog_1_method_39_code 17 = .ok (.aaload, 1) := by decide +kernel
theorem d_C_recountStuck_18 : decode prog_1_method_39_code 18 = .ok (.astore 4, 2) := by decide +kernel
theorem d_C_recountStuck_20 : decode prog_1_method_39_code 20 = .ok (.aload 4, 2) := by decide +kernel
theorem d_C_recountStuck_22 : decode prog_1_method_39_code 22 = .ok (.ifnull 44, 3) := by decide +kernel
theorem d_C_recountStuck_25 : decode prog_1_method_39_code 25 = .ok (.aload 4, 2) := by decide +kernel
theorem d_C_recountStuck_27 : decode prog_1_method_39_code 27 = .ok (.getfield 166, 3) := by decide +kernel
theorem d_C_recountStuck_30 : decode prog_1_method_39_code 30 = .ok (.iconst 3, 1) := by decide +kernel
theorem d_C_recountStuck_31 : decode prog_1_method_39_code 31 = .ok (.if_icmp .eq 6, 3) := by decide +kernel
theorem d_C_recountStuck_34 : decode prog_1_method_39_code 34 = .ok (.goto 32, 3) := by decide +kernel
theorem d_C_recountStuck_37 : decode prog_1_method_39_code 37 = .ok (.aload 4, 2) := by decide +kernel
theorem d_C_recountStuck_39 : decode prog_1_method_39_code 39 = .ok (.aload_n 0, 1) := by decide +kernel
theorem d_C_recountStuck_40 : decode prog_1_method_39_code 40 = .ok (.aload 4, 2) := by decide +kernel
theorem d_C_recountStuck_42 : decode prog_1_method_39_code 42 = .ok (.invokevirtual 266, 3) := by decide +kernel
theorem d_C_recountStuck_45 : decode prog_1_method_39_code 45 = .ok (.iconst 3, 1) := by decide +kernel
theorem d_C_recountStuck_46 : decode prog_1_method_39_code 46 = .ok (.invokestatic 235, 3) := by decide +kernel
theorem d_C_recountStuck_49 : decode prog_1_method_39_code 49 = .ok (.putfield 166, 3) := by decide +kernel
theorem d_C_recountStuck_52 : decode prog_1_method_39_code 52 = .ok (.aload 4, 2) := by decide +kernel
theorem d_C_recountStuck_54 : decode prog_1_method_39_code 54 = .ok (.getfield 166, 3) := by decide +kernel
theorem d_C_recountStuck_57 : decode prog_1_method_39_code 57 = .ok (.ifCond .ne 9, 3) := by decide +kernel
theorem d_C_recountStuck_60 : decode prog_1_method_39_code 60 = .ok (.aload_n 0, 1) := by decide +kernel
theorem d_C_recountStuck_61 : decode prog_1_method_39_code 61 = .ok (.aload 4, 2) := by decide +kernel
theorem d_C_recountStuck_63 : decode prog_1_method_39_code 63 = .ok (.invokevirtual 211, 3) := by decide +kernel
theorem d_C_recountStuck_66 : decode prog_1_method_39_code 66 = .ok (.iinc 3 1, 3) := by decide +kernel
theorem d_C_recountStuck_69 : decode prog_1_method_39_code 69 = .ok (.goto (-59), 3) := by decide +kernel
theorem d_C_recountStuck_72 : decode prog_1_method_39_code 72 = .ok (.return_, 1) := by decide +kernel
theorem d_C_whitenAll_0 : decode prog_1_method_41_code 0 = .ok (.aload_n 0, 1) := by decide +kernel
theorem d_C_whitenAll_1 : decode prog_1_method_41_code 1 = .ok (.getfield 18, 3) := by decide +kernel
theorem d_C_whitenAll_4 : decode prog_1_method_41_code 4 = .ok (.astore_n 1, 1) := by decide +kernel
theorem d_C_whitenAll_5 : decode prog_1_method_41_code 5 = .ok (.aload_n 1, 1) := by decide +kernel
theorem d_C_whitenAll_6 : decode prog_1_method_41_code 6 = .ok (.arraylength, 1) := by decide +kernel
theorem d_C_whitenAll_7 : decode prog_1_method_41_code 7 = .ok (.istore_n 2, 1) := by decide +kernel
theorem d_C_whitenAll_8 : decode prog_1_method_41_code 8 = .ok (.iconst 0, 1) := by decide +kernel
theorem d_C_whitenAll_9 : decode prog_1_method_41_code 9 = .ok (.istore_n 3, 1) := by decide +kernel
theorem d_C_whitenAll_10 : decode prog_1_method_41_code 10 = .ok (.iload_n 3, 1) := by decide +kernel
theorem d_C_whitenAll_11 : decode prog_1_method_41_code 11 = .ok (.iload_n 2, 1) := by decide +kernel
theorem d_C_whitenAll_12 : decode prog_1_method_41_code 12 = .ok (.if_icmp .ge 25, 3) := by decide +kernel
theorem d_C_whitenAll_15 : decode prog_1_method_41_code 15 = .ok (.aload_n 1, 1) := by decide +kernel
theorem d_C_whitenAll_16 : decode prog_1_method_41_code 16 = .ok (.iload_n 3, 1) := by decide +kernel
theorem d_C_whitenAll_17 : decode prog_1_method_41_code 17 = .ok (.aaload, 1) := by decide +kernel
theorem d_C_whitenAll_18 : decode prog_1_method_41_code 18 = .ok (.astore 4, 2) := by decide +kernel
theorem d_C_whitenAll_20 : decode prog_1_method_41_code 20 = .ok (.aload 4, 2) := by decide +kernel
theorem d_C_whitenAll_22 : decode prog_1_method_41_code 22 = .ok (.ifnull 9, 3) := by decide +kernel
theorem d_C_whitenAll_25 : decode prog_1_method_41_code 25 = .ok (.aload 4, 2) := by decide +kernel
theorem d_C_whitenAll_27 : decode prog_1_method_41_code 27 = .ok (.iconst 0, 1) := by decide +kernel
theorem d_C_whitenAll_28 : decode prog_1_method_41_code 28 = .ok (.putfield 169, 3) := by decide +kernel
theorem d_C_whitenAll_31 : decode prog_1_method_41_code 31 = .ok (.iinc 3 1, 3) := by decide +kernel
theorem d_C_whitenAll_34 : decode prog_1_method_41_code 34 = .ok (.goto (-24), 3) := by decide +kernel
theorem d_C_whitenAll_37 : decode prog_1_method_41_code 37 = .ok (.return_, 1) := by decide +kernel
theorem d_P_isUsed_0 : decode prog_4_method_2_code 0 = .ok (.aload_n 0, 1) := by decide +kernel
theorem d_P_isUsed_1 : decode prog_4_method_2_code 1 = .ok (.getfield 9, 3) := by decide +kernel
theorem d_P_isUsed_4 : decode prog_4_method_2_code 4 = .ok (.iload_n 1, 1) := by decide +kernel
theorem d_P_isUsed_5 : decode prog_4_method_2_code 5 = .ok (.iaload, 1) := by decide +kernel
theorem d_P_isUsed_6 : decode prog_4_method_2_code 6 = .ok (.ifCond .gt 12, 3) := by decide +kernel
theorem d_P_isUsed_9 : decode prog_4_method_2_code 9 = .ok (.aload_n 0, 1) := by decide +kernel
theorem d_P_isUsed_10 : decode prog_4_method_2_code 10 = .ok (.getfield 15, 3) := by decide +kernel
theorem d_P_isUsed_13 : decode prog_4_method_2_code 13 = .ok (.iload_n 1, 1) := by decide +kernel
theorem d_P_isUsed_14 : decode prog_4_method_2_code 14 = .ok (.baload, 1) := by decide +kernel
theorem d_P_isUsed_15 : decode prog_4_method_2_code 15 = .ok (.ifCond .eq 7, 3) := by decide +kernel
theorem d_P_isUsed_18 : decode prog_4_method_2_code 18 = .ok (.iconst 1, 1) := by decide +kernel
theorem d_P_isUsed_19 : decode prog_4_method_2_code 19 = .ok (.goto 4, 3) := by decide +kernel
theorem d_P_isUsed_22 : decode prog_4_method_2_code 22 = .ok (.iconst 0, 1) := by decide +kernel
theorem d_P_isUsed_23 : decode prog_4_method_2_code 23 = .ok (.ireturn, 1) := by decide +kernel
theorem d_P_usedLines_0 : decode prog_4_method_14_code 0 = .ok (.iconst 0, 1) := by decide +kernel
theorem d_P_usedLines_1 : decode prog_4_method_14_code 1 = .ok (.istore_n 2, 1) := by decide +kernel
theorem d_P_usedLines_2 : decode prog_4_method_14_code 2 = .ok (.iload_n 1, 1) := by decide +kernel
theorem d_P_usedLines_3 : decode prog_4_method_14_code 3 = .ok (.bipush 8, 2) := by decide +kernel
theorem d_P_usedLines_5 : decode prog_4_method_14_code 5 = .ok (.imul, 1) := by decide +kernel
theorem d_P_usedLines_6 : decode prog_4_method_14_code 6 = .ok (.istore_n 3, 1) := by decide +kernel
theorem d_P_usedLines_7 : decode prog_4_method_14_code 7 = .ok (.iload_n 3, 1) := by decide +kernel
theorem d_P_usedLines_8 : decode prog_4_method_14_code 8 = .ok (.iload_n 1, 1) := by decide +kernel
theorem d_P_usedLines_9 : decode prog_4_method_14_code 9 = .ok (.iconst 1, 1) := by decide +kernel
theorem d_P_usedLines_10 : decode prog_4_method_14_code 10 = .ok (.iadd, 1) := by decide +kernel
theorem d_P_usedLines_11 : decode prog_4_method_14_code 11 = .ok (.bipush 8, 2) := by decide +kernel
theorem d_P_usedLines_13 : decode prog_4_method_14_code 13 = .ok (.imul, 1) := by decide +kernel
theorem d_P_usedLines_14 : decode prog_4_method_14_code 14 = .ok (.if_icmp .ge 20, 3) := by decide +kernel
theorem d_P_usedLines_17 : decode prog_4_method_14_code 17 = .ok (.aload_n 0, 1) := by decide +kernel
theorem d_P_usedLines_18 : decode prog_4_method_14_code 18 = .ok (.iload_n 3, 1) := by decide +kernel
theorem d_P_usedLines_19 : decode prog_4_method_14_code 19 = .ok (.invokevirtual 65, 3) := by decide +kernel
theorem d_P_usedLines_22 : decode prog_4_method_14_code 22 = .ok (.ifCond .eq 6, 3) := by decide +kernel
theorem d_P_usedLines_25 : decode prog_4_method_14_code 25 = .ok (.iinc 2 1, 3) := by decide +kernel
theorem d_P_usedLines_28 : decode prog_4_method_14_code 28 = .ok (.iinc 3 1, 3) := by decide +kernel
theorem d_P_usedLines_31 : decode prog_4_method_14_code 31 = .ok (.goto (-24), 3) := by decide +kernel
theorem d_P_usedLines_34 : decode prog_4_method_14_code 34 = .ok (.iload_n 2, 1) := by decide +kernel
theorem d_P_usedLines_35 : decode prog_4_method_14_code 35 = .ok (.ireturn, 1) := by decide +kernel
theorem d_P_sparsestBlock_0 : decode prog_4_method_13_code 0 = .ok (.iconst (-1), 1) := by decide +kernel
theorem d_P_sparsestBlock_1 : decode prog_4_method_13_code 1 = .ok (.istore_n 1, 1) := by decide +kernel
theorem d_P_sparsestBlock_2 : decode prog_4_method_13_code 2 = .ok (.iconst 4, 1) := by decide +kernel
theorem d_P_sparsestBlock_3 : decode prog_4_method_13_code 3 = .ok (.istore_n 2, 1) := by decide +kernel
theorem d_P_sparsestBlock_4 : decode prog_4_method_13_code 4 = .ok (.iconst 0, 1) := by decide +kernel
theorem d_P_sparsestBlock_5 : decode prog_4_method_13_code 5 = .ok (.istore_n 3, 1) := by decide +kernel
theorem d_P_sparsestBlock_6 : decode prog_4_method_13_code 6 = .ok (.iload_n 3, 1) := by decide +kernel
theorem d_P_sparsestBlock_7 : decode prog_4_method_13_code 7 = .ok (.iconst 4, 1) := by decide +kernel
theorem d_P_sparsestBlock_8 : decode prog_4_method_13_code 8 = .ok (.if_icmp .ge 32, 3) := by decide +kernel
theorem d_P_sparsestBlock_11 : decode prog_4_method_13_code 11 = .ok (.aload_n 0, 1) := by decide +kernel
theorem d_P_sparsestBlock_12 : decode prog_4_method_13_code 12 = .ok (.iload_n 3, 1) := by decide +kernel
theorem d_P_sparsestBlock_13 : decode prog_4_method_13_code 13 = .ok (.invokevirtual 62, 3) := by decide +kernel
theorem d_P_sparsestBlock_16 : decode prog_4_method_13_code 16 = .ok (.istore 4, 2) := by decide +kernel
theorem d_P_sparsestBlock_18 : decode prog_4_method_13_code 18 = .ok (.iload 4, 2) := by decide +kernel
theorem d_P_sparsestBlock_20 : decode prog_4_method_13_code 20 = .ok (.ifCond .le 14, 3) := by decide +kernel
theorem d_P_sparsestBlock_23 : decode prog_4_method_13_code 23 = .ok (.iload 4, 2) := by decide +kernel
theorem d_P_sparsestBlock_25 : decode prog_4_method_13_code 25 = .ok (.iload_n 2, 1) := by decide +kernel
theorem d_P_sparsestBlock_26 : decode prog_4_method_13_code 26 = .ok (.if_icmp .ge 8, 3) := by decide +kernel
theorem d_P_sparsestBlock_29 : decode prog_4_method_13_code 29 = .ok (.iload_n 3, 1) := by decide +kernel
theorem d_P_sparsestBlock_30 : decode prog_4_method_13_code 30 = .ok (.istore_n 1, 1) := by decide +kernel
theorem d_P_sparsestBlock_31 : decode prog_4_method_13_code 31 = .ok (.iload 4, 2) := by decide +kernel
theorem d_P_sparsestBlock_33 : decode prog_4_method_13_code 33 = .ok (.istore_n 2, 1) := by decide +kernel
theorem d_P_sparsestBlock_34 : decode prog_4_method_13_code 34 = .ok (.iinc 3 1, 3) := by decide +kernel
theorem d_P_sparsestBlock_37 : decode prog_4_method_13_code 37 = .ok (.goto (-31), 3) := by decide +kernel
theorem d_P_sparsestBlock_40 : decode prog_4_method_13_code 40 = .ok (.iload_n 1, 1) := by decide +kernel
theorem d_P_sparsestBlock_41 : decode prog_4_method_13_code 41 = .ok (.ireturn, 1) := by decide +kernel
theorem d_P_shut_0 : decode prog_4_method_9_code 0 = .ok (.aload_n 0, 1) := by decide +kernel
theorem d_P_shut_1 : decode prog_4_method_9_code 1 = .ok (.iload_n 1, 1) := by decide +kernel
theorem d_P_shut_2 : decode prog_4_method_9_code 2 = .ok (.putfield 29, 3) := by decide +kernel
theorem d_P_shut_5 : decode prog_4_method_9_code 5 = .ok (.return_, 1) := by decide +kernel
theorem d_C_clearSparsestBlock_0 : decode prog_1_method_42_code 0 = .ok (.aload_n 0, 1) := by decide +kernel
theorem d_C_clearSparsestBlock_1 : decode prog_1_method_42_code 1 = .ok (.getfield 24, 3) := by decide +kernel
theorem d_C_clearSparsestBlock_4 : decode prog_1_method_42_code 4 = .ok (.invokevirtual 275, 3) := by decide +kernel
theorem d_C_clearSparsestBlock_7 : decode prog_1_method_42_code 7 = .ok (.istore_n 1, 1) := by decide +kernel
theorem d_C_clearSparsestBlock_8 : decode prog_1_method_42_code 8 = .ok (.iload_n 1, 1) := by decide +kernel
theorem d_C_clearSparsestBlock_9 : decode prog_1_method_42_code 9 = .ok (.iconst (-1), 1) := by decide +kernel
theorem d_C_clearSparsestBlock_10 : decode prog_1_method_42_code 10 = .ok (.if_icmp .ne 4, 3) := by decide +kernel
theorem d_C_clearSparsestBlock_13 : decode prog_1_method_42_code 13 = .ok (.return_, 1) := by decide +kernel
theorem d_C_clearSparsestBlock_14 : decode prog_1_method_42_code 14 = .ok (.aload_n 0, 1) := by decide +kernel
theorem d_C_clearSparsestBlock_15 : decode prog_1_method_42_code 15 = .ok (.getfield 24, 3) := by decide +kernel
theorem d_C_clearSparsestBlock_18 : decode prog_1_method_42_code 18 = .ok (.invokevirtual 117, 3) := by decide +kernel
theorem d_C_clearSparsestBlock_21 : decode prog_1_method_42_code 21 = .ok (.aload_n 0, 1) := by decide +kernel
theorem d_C_clearSparsestBlock_22 : decode prog_1_method_42_code 22 = .ok (.getfield 24, 3) := by decide +kernel
theorem d_C_clearSparsestBlock_25 : decode prog_1_method_42_code 25 = .ok (.iload_n 1, 1) := by decide +kernel
theorem d_C_clearSparsestBlock_26 : decode prog_1_method_42_code 26 = .ok (.invokevirtual 278, 3) := by decide +kernel
theorem d_C_clearSparsestBlock_29 : decode prog_1_method_42_code 29 = .ok (.iconst 0, 1) := by decide +kernel
theorem d_C_clearSparsestBlock_30 : decode prog_1_method_42_code 30 = .ok (.istore_n 2, 1) := by decide +kernel
theorem d_C_clearSparsestBlock_31 : decode prog_1_method_42_code 31 = .ok (.iload_n 2, 1) := by decide +kernel
theorem d_C_clearSparsestBlock_32 : decode prog_1_method_42_code 32 = .ok (.bipush 32, 2) := by decide +kernel
theorem d_C_clearSparsestBlock_34 : decode prog_1_method_42_code 34 = .ok (.if_icmp .ge 41, 3) := by decide +kernel
theorem d_C_clearSparsestBlock_37 : decode prog_1_method_42_code 37 = .ok (.aload_n 0, 1) := by decide +kernel
theorem d_C_clearSparsestBlock_38 : decode prog_1_method_42_code 38 = .ok (.getfield 18, 3) := by decide +kernel
theorem d_C_clearSparsestBlock_41 : decode prog_1_method_42_code 41 = .ok (.iload_n 1, 1) := by decide +kernel
theorem d_C_clearSparsestBlock_42 : decode prog_1_method_42_code 42 = .ok (.bipush 32, 2) := by decide +kernel
theorem d_C_clearSparsestBlock_44 : decode prog_1_method_42_code 44 = .ok (.imul, 1) := by decide +kernel
theorem d_C_clearSparsestBlock_45 : decode prog_1_method_42_code 45 = .ok (.iload_n 2, 1) := by decide +kernel
theorem d_C_clearSparsestBlock_46 : decode prog_1_method_42_code 46 = .ok (.iadd, 1) := by decide +kernel
theorem d_C_clearSparsestBlock_47 : decode prog_1_method_42_code 47 = .ok (.aaload, 1) := by decide +kernel
theorem d_C_clearSparsestBlock_48 : decode prog_1_method_42_code 48 = .ok (.astore_n 3, 1) := by decide +kernel
theorem d_C_clearSparsestBlock_49 : decode prog_1_method_42_code 49 = .ok (.aload_n 3, 1) := by decide +kernel
theorem d_C_clearSparsestBlock_50 : decode prog_1_method_42_code 50 = .ok (.ifnull 19, 3) := by decide +kernel
theorem d_C_clearSparsestBlock_53 : decode prog_1_method_42_code 53 = .ok (.aload_n 0, 1) := by decide +kernel
theorem d_C_clearSparsestBlock_54 : decode prog_1_method_42_code 54 = .ok (.aload_n 3, 1) := by decide +kernel
theorem d_C_clearSparsestBlock_55 : decode prog_1_method_42_code 55 = .ok (.aload_n 0, 1) := by decide +kernel
theorem d_C_clearSparsestBlock_56 : decode prog_1_method_42_code 56 = .ok (.getfield 24, 3) := by decide +kernel
theorem d_C_clearSparsestBlock_59 : decode prog_1_method_42_code 59 = .ok (.aload_n 3, 1) := by decide +kernel
theorem d_C_clearSparsestBlock_60 : decode prog_1_method_42_code 60 = .ok (.getfield 160, 3) := by decide +kernel
theorem d_C_clearSparsestBlock_63 : decode prog_1_method_42_code 63 = .ok (.invokevirtual 52, 3) := by decide +kernel
theorem d_C_clearSparsestBlock_66 : decode prog_1_method_42_code 66 = .ok (.invokevirtual 244, 3) := by decide +kernel
theorem d_C_clearSparsestBlock_69 : decode prog_1_method_42_code 69 = .ok (.iinc 2 1, 3) := by decide +kernel
theorem d_C_clearSparsestBlock_72 : decode prog_1_method_42_code 72 = .ok (.goto (-41), 3) := by decide +kernel
theorem d_C_clearSparsestBlock_75 : decode prog_1_method_42_code 75 = .ok (.aload_n 0, 1) := by decide +kernel
theorem d_C_clearSparsestBlock_76 : decode prog_1_method_42_code 76 = .ok (.getfield 24, 3) := by decide +kernel
theorem d_C_clearSparsestBlock_79 : decode prog_1_method_42_code 79 = .ok (.iconst (-1), 1) := by decide +kernel
theorem d_C_clearSparsestBlock_80 : decode prog_1_method_42_code 80 = .ok (.invokevirtual 278, 3) := by decide +kernel
theorem d_C_clearSparsestBlock_83 : decode prog_1_method_42_code 83 = .ok (.aload_n 0, 1) := by decide +kernel
theorem d_C_clearSparsestBlock_84 : decode prog_1_method_42_code 84 = .ok (.getfield 24, 3) := by decide +kernel
