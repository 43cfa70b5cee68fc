/-! Instructions (written by a program) -/
theorem d_S_init_0 : decode prog_6_method_1_code 0 = .ok (.aload_n 0, 1) := by decide +kernel
theorem d_S_init_1 : decode prog_6_method_1_code 1 = .ok (.invokespecial 3, 3) := by decide +kernel
theorem d_S_init_4 : decode prog_6_method_1_code 4 = .ok (.return_, 1) := by decide +kernel
theorem d_P_init_0 : decode prog_4_method_1_code 0 = .ok (.aload_n 0, 1) := by decide +kernel
theorem d_P_init_1 : decode prog_4_method_1_code 1 = .ok (.invokespecial 3, 3) := by decide +kernel
theorem d_P_init_4 : decode prog_4_method_1_code 4 = .ok (.aload_n 0, 1) := by decide +kernel
theorem d_P_init_5 : decode prog_4_method_1_code 5 = .ok (.bipush 32, 2) := by decide +kernel
theorem d_P_init_7 : decode prog_4_method_1_code 7 = .ok (.newarray .int, 2) := by decide +kernel
theorem d_P_init_9 : decode prog_4_method_1_code 9 = .ok (.putfield 9, 3) := by decide +kernel
theorem d_P_init_12 : decode prog_4_method_1_code 12 = .ok (.aload_n 0, 1) := by decide +kernel
theorem d_P_init_13 : decode prog_4_method_1_code 13 = .ok (.bipush 32, 2) := by decide +kernel
theorem d_P_init_15 : decode prog_4_method_1_code 15 = .ok (.newarray .boolean, 2) := by decide +kernel
theorem d_P_init_17 : decode prog_4_method_1_code 17 = .ok (.putfield 15, 3) := by decide +kernel
theorem d_P_init_20 : decode prog_4_method_1_code 20 = .ok (.aload_n 0, 1) := by decide +kernel
theorem d_P_init_21 : decode prog_4_method_1_code 21 = .ok (.new 19, 3) := by decide +kernel
theorem d_P_init_24 : decode prog_4_method_1_code 24 = .ok (.dup, 1) := by decide +kernel
theorem d_P_init_25 : decode prog_4_method_1_code 25 = .ok (.invokespecial 21, 3) := by decide +kernel
theorem d_P_init_28 : decode prog_4_method_1_code 28 = .ok (.putfield 22, 3) := by decide +kernel
theorem d_P_init_31 : decode prog_4_method_1_code 31 = .ok (.aload_n 0, 1) := by decide +kernel
theorem d_P_init_32 : decode prog_4_method_1_code 32 = .ok (.new 19, 3) := by decide +kernel
theorem d_P_init_35 : decode prog_4_method_1_code 35 = .ok (.dup, 1) := by decide +kernel
theorem d_P_init_36 : decode prog_4_method_1_code 36 = .ok (.invokespecial 21, 3) := by decide +kernel
theorem d_P_init_39 : decode prog_4_method_1_code 39 = .ok (.putfield 26, 3) := by decide +kernel
theorem d_P_init_42 : decode prog_4_method_1_code 42 = .ok (.aload_n 0, 1) := by decide +kernel
theorem d_P_init_43 : decode prog_4_method_1_code 43 = .ok (.iconst (-1), 1) := by decide +kernel
theorem d_P_init_44 : decode prog_4_method_1_code 44 = .ok (.putfield 29, 3) := by decide +kernel
theorem d_P_init_47 : decode prog_4_method_1_code 47 = .ok (.return_, 1) := by decide +kernel
theorem d_G_init_0 : decode prog_3_method_1_code 0 = .ok (.aload_n 0, 1) := by decide +kernel
theorem d_G_init_1 : decode prog_3_method_1_code 1 = .ok (.invokespecial 3, 3) := by decide +kernel
theorem d_G_init_4 : decode prog_3_method_1_code 4 = .ok (.aload_n 0, 1) := by decide +kernel
theorem d_G_init_5 : decode prog_3_method_1_code 5 = .ok (.sipush 128, 3) := by decide +kernel
theorem d_G_init_8 : decode prog_3_method_1_code 8 = .ok (.anewarray 9, 3) := by decide +kernel
theorem d_G_init_11 : decode prog_3_method_1_code 11 = .ok (.putfield 11, 3) := by decide +kernel
theorem d_G_init_14 : decode prog_3_method_1_code 14 = .ok (.aload_n 0, 1) := by decide +kernel
theorem d_G_init_15 : decode prog_3_method_1_code 15 = .ok (.sipush 128, 3) := by decide +kernel
theorem d_G_init_18 : decode prog_3_method_1_code 18 = .ok (.newarray .int, 2) := by decide +kernel
theorem d_G_init_20 : decode prog_3_method_1_code 20 = .ok (.putfield 17, 3) := by decide +kernel
theorem d_G_init_23 : decode prog_3_method_1_code 23 = .ok (.aload_n 0, 1) := by decide +kernel
theorem d_G_init_24 : decode prog_3_method_1_code 24 = .ok (.sipush 128, 3) := by decide +kernel
theorem d_G_init_27 : decode prog_3_method_1_code 27 = .ok (.anewarray 9, 3) := by decide +kernel
theorem d_G_init_30 : decode prog_3_method_1_code 30 = .ok (.putfield 21, 3) := by decide +kernel
theorem d_G_init_33 : decode prog_3_method_1_code 33 = .ok (.return_, 1) := by decide +kernel
theorem d_W_init_0 : decode prog_5_method_1_code 0 = .ok (.aload_n 0, 1) := by decide +kernel
theorem d_W_init_1 : decode prog_5_method_1_code 1 = .ok (.invokespecial 3, 3) := by decide +kernel
theorem d_W_init_4 : decode prog_5_method_1_code 4 = .ok (.aload_n 0, 1) := by decide +kernel
theorem d_W_init_5 : decode prog_5_method_1_code 5 = .ok (.sipush 262, 3) := by decide +kernel
theorem d_W_init_8 : decode prog_5_method_1_code 8 = .ok (.anewarray 9, 3) := by decide +kernel
theorem d_W_init_11 : decode prog_5_method_1_code 11 = .ok (.putfield 11, 3) := by decide +kernel
theorem d_W_init_14 : decode prog_5_method_1_code 14 = .ok (.return_, 1) := by decide +kernel
theorem d_C_init_0 : decode prog_1_method_1_code 0 = .ok (.aload_n 0, 1) := by decide +kernel
theorem d_C_init_1 : decode prog_1_method_1_code 1 = .ok (.invokespecial 3, 3) := by decide +kernel
theorem d_C_init_4 : decode prog_1_method_1_code 4 = .ok (.aload_n 0, 1) := by decide +kernel
theorem d_C_init_5 : decode prog_1_method_1_code 5 = .ok (.bipush 6, 2) := by decide +kernel
theorem d_C_init_7 : decode prog_1_method_1_code 7 = .ok (.anewarray 9, 3) := by decide +kernel
theorem d_C_init_10 : decode prog_1_method_1_code 10 = .ok (.putfield 11, 3) := by decide +kernel
theorem d_C_init_13 : decode prog_1_method_1_code 13 = .ok (.aload_n 0, 1) := by decide +kernel
theorem d_C_init_14 : decode prog_1_method_1_code 14 = .ok (.bipush 6, 2) := by decide +kernel
theorem d_C_init_16 : decode prog_1_method_1_code 16 = .ok (.anewarray 9, 3) := by decide +kernel
theorem d_C_init_19 : decode prog_1_method_1_code 19 = .ok (.putfield 15, 3) := by decide +kernel
theorem d_C_init_22 : decode prog_1_method_1_code 22 = .ok (.aload_n 0, 1) := by decide +kernel
theorem d_C_init_23 : decode prog_1_method_1_code 23 = .ok (.sipush 128, 3) := by decide +kernel
theorem d_C_init_26 : decode prog_1_method_1_code 26 = .ok (.anewarray 9, 3) := by decide +kernel
theorem d_C_init_29 : decode prog_1_method_1_code 29 = .ok (.putfield 18, 3) := by decide +kernel
theorem d_C_init_32 : decode prog_1_method_1_code 32 = .ok (.aload_n 0, 1) := by decide +kernel
theorem d_C_init_33 : decode prog_1_method_1_code 33 = .ok (.new 21, 3) := by decide +kernel
theorem d_C_init_36 : decode prog_1_method_1_code 36 = .ok (.dup, 1) := by decide +kernel
theorem d_C_init_37 : decode prog_1_method_1_code 37 = .ok (.invokespecial 23, 3) := by decide +kernel
theorem d_C_init_40 : decode prog_1_method_1_code 40 = .ok (.putfield 24, 3) := by decide +kernel
theorem d_C_init_43 : decode prog_1_method_1_code 43 = .ok (.aload_n 0, 1) := by decide +kernel
theorem d_C_init_44 : decode prog_1_method_1_code 44 = .ok (.new 28, 3) := by decide +kernel
theorem d_C_init_47 : decode prog_1_method_1_code 47 = .ok (.dup, 1) := by decide +kernel
theorem d_C_init_48 : decode prog_1_method_1_code 48 = .ok (.invokespecial 30, 3) := by decide +kernel
theorem d_C_init_51 : decode prog_1_method_1_code 51 = .ok (.putfield 31, 3) := by decide +kernel
theorem d_C_init_54 : decode prog_1_method_1_code 54 = .ok (.aload_n 0, 1) := by decide +kernel
theorem d_C_init_55 : decode prog_1_method_1_code 55 = .ok (.new 35, 3) := by decide +kernel
theorem d_C_init_58 : decode prog_1_method_1_code 58 = .ok (.dup, 1) := by decide +kernel
theorem d_C_init_59 : decode prog_1_method_1_code 59 = .ok (.invokespecial 37, 3) := by decide +kernel
theorem d_C_init_62 : decode prog_1_method_1_code 62 = .ok (.putfield 38, 3) := by decide +kernel
theorem d_C_init_65 : decode prog_1_method_1_code 65 = .ok (.aload_n 0, 1) := by decide +kernel
theorem d_C_init_66 : decode prog_1_method_1_code 66 = .ok (.new 35, 3) := by decide +kernel
theorem d_C_init_69 : decode prog_1_method_1_code 69 = .ok (.dup, 1) := by decide +kernel
theorem d_C_init_70 : decode prog_1_method_1_code 70 = .ok (.invokespecial 37, 3) := by decide +kernel
theorem d_C_init_73 : decode prog_1_method_1_code 73 = .ok (.putfield 42, 3) := by decide +kernel
theorem d_C_init_76 : decode prog_1_method_1_code 76 = .ok (.return_, 1) := by decide +kernel
theorem d_C_isRoot_0 : decode prog_1_method_15_code 0 = .ok (.iload_n 0, 1) := by decide +kernel
theorem d_C_isRoot_1 : decode prog_1_method_15_code 1 = .ok (.ifCond .lt 13, 3) := by decide +kernel
theorem d_C_isRoot_4 : decode prog_1_method_15_code 4 = .ok (.iload_n 0, 1) := by decide +kernel
theorem d_C_isRoot_5 : decode prog_1_method_15_code 5 = .ok (.bipush 6, 2) := by decide +kernel
theorem d_C_isRoot_7 : decode prog_1_method_15_code 7 = .ok (.if_icmp .ge 7, 3) := by decide +kernel
theorem d_C_isRoot_10 : decode prog_1_method_15_code 10 = .ok (.iconst 1, 1) := by decide +kernel
theorem d_C_isRoot_11 : decode prog_1_method_15_code 11 = .ok (.goto 4, 3) := by decide +kernel
theorem d_C_isRoot_14 : decode prog_1_method_15_code 14 = .ok (.iconst 0, 1) := by decide +kernel
theorem d_C_isRoot_15 : decode prog_1_method_15_code 15 = .ok (.ireturn, 1) := by decide +kernel
theorem d_S_has_0 : decode prog_6_method_3_code 0 = .ok (.aload_n 0, 1) := by decide +kernel
theorem d_S_has_1 : decode prog_6_method_3_code 1 = .ok (.getfield 18, 3) := by decide +kernel
theorem d_S_has_4 : decode prog_6_method_3_code 4 = .ok (.aload_n 0, 1) := by decide +kernel
theorem d_S_has_5 : decode prog_6_method_3_code 5 = .ok (.getfield 15, 3) := by decide +kernel
theorem d_S_has_8 : decode prog_6_method_3_code 8 = .ok (.isub, 1) := by decide +kernel
theorem d_S_has_9 : decode prog_6_method_3_code 9 = .ok (.iload_n 1, 1) := by decide +kernel
theorem d_S_has_10 : decode prog_6_method_3_code 10 = .ok (.if_icmp .lt 7, 3) := by decide +kernel
theorem d_S_has_13 : decode prog_6_method_3_code 13 = .ok (.iconst 1, 1) := by decide +kernel
theorem d_S_has_14 : decode prog_6_method_3_code 14 = .ok (.goto 4, 3) := by decide +kernel
theorem d_S_has_17 : decode prog_6_method_3_code 17 = .ok (.iconst 0, 1) := by decide +kernel
theorem d_S_has_18 : decode prog_6_method_3_code 18 = .ok (.ireturn, 1) := by decide +kernel
theorem d_S_take_0 : decode prog_6_method_4_code 0 = .ok (.aload_n 0, 1) := by decide +kernel
theorem d_S_take_1 : decode prog_6_method_4_code 1 = .ok (.getfield 15, 3) := by decide +kernel
theorem d_S_take_4 : decode prog_6_method_4_code 4 = .ok (.istore_n 2, 1) := by decide +kernel
theorem d_S_take_5 : decode prog_6_method_4_code 5 = .ok (.aload_n 0, 1) := by decide +kernel
theorem d_S_take_6 : decode prog_6_method_4_code 6 = .ok (.dup, 1) := by decide +kernel
theorem d_S_take_7 : decode prog_6_method_4_code 7 = .ok (.getfield 15, 3) := by decide +kernel
theorem d_S_take_10 : decode prog_6_method_4_code 10 = .ok (.iload_n 1, 1) := by decide +kernel
theorem d_S_take_11 : decode prog_6_method_4_code 11 = .ok (.iadd, 1) := by decide +kernel
theorem d_S_take_12 : decode prog_6_method_4_code 12 = .ok (.putfield 15, 3) := by decide +kernel
theorem d_S_take_15 : decode prog_6_method_4_code 15 = .ok (.iload_n 2, 1) := by decide +kernel
theorem d_S_take_16 : decode prog_6_method_4_code 16 = .ok (.ireturn, 1) := by decide +kernel
theorem d_S_covers_0 : decode prog_6_method_5_code 0 = .ok (.iload_n 1, 1) := by decide +kernel
theorem d_S_covers_1 : decode prog_6_method_5_code 1 = .ok (.iconst 4, 1) := by decide +kernel
theorem d_S_covers_2 : decode prog_6_method_5_code 2 = .ok (.imul, 1) := by decide +kernel
theorem d_S_covers_3 : decode prog_6_method_5_code 3 = .ok (.aload_n 0, 1) := by decide +kernel
theorem d_S_covers_4 : decode prog_6_method_5_code 4 = .ok (.getfield 9, 3) := by decide +kernel
theorem d_S_covers_7 : decode prog_6_method_5_code 7 = .ok (.if_icmp .lt 17, 3) := by decide +kernel
theorem d_S_covers_10 : decode prog_6_method_5_code 10 = .ok (.iload_n 1, 1) := by decide +kernel
theorem d_S_covers_11 : decode prog_6_method_5_code 11 = .ok (.iconst 4, 1) := by decide +kernel
theorem d_S_covers_12 : decode prog_6_method_5_code 12 = .ok (.imul, 1) := by decide +kernel
theorem d_S_covers_13 : decode prog_6_method_5_code 13 = .ok (.aload_n 0, 1) := by decide +kernel
theorem d_S_covers_14 : decode prog_6_method_5_code 14 = .ok (.getfield 18, 3) := by decide +kernel
theorem d_S_covers_17 : decode prog_6_method_5_code 17 = .ok (.if_icmp .ge 7, 3) := by decide +kernel
theorem d_S_covers_20 : decode prog_6_method_5_code 20 = .ok (.iconst 1, 1) := by decide +kernel
theorem d_S_covers_21 : decode prog_6_method_5_code 21 = .ok (.goto 4, 3) := by decide +kernel
theorem d_S_covers_24 : decode prog_6_method_5_code 24 = .ok (.iconst 0, 1) := by decide +kernel
theorem d_S_covers_25 : decode prog_6_method_5_code 25 = .ok (.ireturn, 1) := by decide +kernel
theorem d_P_isFree_0 : decode prog_4_method_3_code 0 = .ok (.aload_n 0, 1) := by decide +kernel
theorem d_P_isFree_1 : decode prog_4_method_3_code 1 = .ok (.getfield 9, 3) := by decide +kernel
theorem d_P_isFree_4 : decode prog_4_method_3_code 4 = .ok (.iload_n 1, 1) := by decide +kernel
theorem d_P_isFree_5 : decode prog_4_method_3_code 5 = .ok (.iaload, 1) := by decide +kernel
theorem d_P_isFree_6 : decode prog_4_method_3_code 6 = .ok (.ifCond .ne 49, 3) := by decide +kernel
theorem d_P_isFree_9 : decode prog_4_method_3_code 9 = .ok (.aload_n 0, 1) := by decide +kernel
theorem d_P_isFree_10 : decode prog_4_method_3_code 10 = .ok (.getfield 15, 3) := by decide +kernel
theorem d_P_isFree_13 : decode prog_4_method_3_code 13 = .ok (.iload_n 1, 1) := by decide +kernel
theorem d_P_isFree_14 : decode prog_4_method_3_code 14 = .ok (.baload, 1) := by decide +kernel
theorem d_P_isFree_15 : decode prog_4_method_3_code 15 = .ok (.ifCond .ne 40, 3) := by decide +kernel
theorem d_P_isFree_18 : decode prog_4_method_3_code 18 = .ok (.iload_n 1, 1) := by decide +kernel
theorem d_P_isFree_19 : decode prog_4_method_3_code 19 = .ok (.bipush 8, 2) := by decide +kernel
theorem d_P_isFree_21 : decode prog_4_method_3_code 21 = .ok (.idiv, 1) := by decide +kernel
theorem d_P_isFree_22 : decode prog_4_method_3_code 22 = .ok (.aload_n 0, 1) := by decide +kernel
theorem d_P_isFree_23 : decode prog_4_method_3_code 23 = .ok (.getfield 29, 3) := by decide +kernel
theorem d_P_isFree_26 : decode prog_4_method_3_code 26 = .ok (.if_icmp .eq 29, 3) := by decide +kernel
theorem d_P_isFree_29 : decode prog_4_method_3_code 29 = .ok (.aload_n 0, 1) := by decide +kernel
theorem d_P_isFree_30 : decode prog_4_method_3_code 30 = .ok (.getfield 22, 3) := by decide +kernel
theorem d_P_isFree_33 : decode prog_4_method_3_code 33 = .ok (.iload_n 1, 1) := by decide +kernel
theorem d_P_isFree_34 : decode prog_4_method_3_code 34 = .ok (.invokevirtual 33, 3) := by decide +kernel
theorem d_P_isFree_37 : decode prog_4_method_3_code 37 = .ok (.ifCond .ne 18, 3) := by decide +kernel
theorem d_P_isFree_40 : decode prog_4_method_3_code 40 = .ok (.aload_n 0, 1) := by decide +kernel
theorem d_P_isFree_41 : decode prog_4_method_3_code 41 = .ok (.getfield 26, 3) := by decide +kernel
theorem d_P_isFree_44 : decode prog_4_method_3_code 44 = .ok (.iload_n 1, 1) := by decide +kernel
theorem d_P_isFree_45 : decode prog_4_method_3_code 45 = .ok (.invokevirtual 33, 3) := by decide +kernel
theorem d_P_isFree_48 : decode prog_4_method_3_code 48 = .ok (.ifCond .ne 7, 3) := by decide +kernel
theorem d_P_isFree_51 : decode prog_4_method_3_code 51 = .ok (.iconst 1, 1) := by decide +kernel
theorem d_P_isFree_52 : decode prog_4_method_3_code 52 = .ok (.goto 4, 3) := by decide +kernel
theorem d_P_isFree_55 : decode prog_4_method_3_code 55 = .ok (.iconst 0, 1) := by decide +kernel
theorem d_P_isFree_56 : decode prog_4_method_3_code 56 = .ok (.ireturn, 1) := by decide +kernel
theorem d_S_open_0 : decode prog_6_method_2_code 0 = .ok (.aload_n 0, 1) := by decide +kernel
theorem d_S_open_1 : decode prog_6_method_2_code 1 = .ok (.iload_n 1, 1) := by decide +kernel
theorem d_S_open_2 : decode prog_6_method_2_code 2 = .ok (.iconst 4, 1) := by decide +kernel
theorem d_S_open_3 : decode prog_6_method_2_code 3 = .ok (.imul, 1) := by decide +kernel
theorem d_S_open_4 : decode prog_6_method_2_code 4 = .ok (.putfield 9, 3) := by decide +kernel
theorem d_S_open_7 : decode prog_6_method_2_code 7 = .ok (.aload_n 0, 1) := by decide +kernel
theorem d_S_open_8 : decode prog_6_method_2_code 8 = .ok (.aload_n 0, 1) := by decide +kernel
theorem d_S_open_9 : decode prog_6_method_2_code 9 = .ok (.getfield 9, 3) := by decide +kernel
theorem d_S_open_12 : decode prog_6_method_2_code 12 = .ok (.putfield 15, 3) := by decide +kernel
theorem d_S_open_15 : decode prog_6_method_2_code 15 = .ok (.aload_n 0, 1) := by decide +kernel
theorem d_S_open_16 : decode prog_6_method_2_code 16 = .ok (.iload_n 2, 1) := by decide +kernel
theorem d_S_open_17 : decode prog_6_method_2_code 17 = .ok (.iconst 4, 1) := by decide +kernel
theorem d_S_open_18 : decode prog_6_method_2_code 18 = .ok (.imul, 1) := by decide +kernel
theorem d_S_open_19 : decode prog_6_method_2_code 19 = .ok (.putfield 18, 3) := by decide +kernel
theorem d_S_open_22 : decode prog_6_method_2_code 22 = .ok (.return_, 1) := by decide +kernel
theorem d_P_openOverflow_0 : decode prog_4_method_12_code 0 = .ok (.iconst 0, 1) := by decide +kernel
theorem d_P_openOverflow_1 : decode prog_4_method_12_code 1 = .ok (.istore_n 1, 1) := by decide +kernel
theorem d_P_openOverflow_2 : decode prog_4_method_12_code 2 = .ok (.iload_n 1, 1) := by decide +kernel
theorem d_P_openOverflow_3 : decode prog_4_method_12_code 3 = .ok (.iconst 4, 1) := by decide +kernel
theorem d_P_openOverflow_4 : decode prog_4_method_12_code 4 = .ok (.if_icmp .ge 68, 3) := by decide +kernel
theorem d_P_openOverflow_7 : decode prog_4_method_12_code 7 = .ok (.iconst 0, 1) := by decide +kernel
theorem d_P_openOverflow_8 : decode prog_4_method_12_code 8 = .ok (.istore_n 2, 1) := by decide +kernel
theorem d_P_openOverflow_9 : decode prog_4_method_12_code 9 = .ok (.iload_n 1, 1) := by decide +kernel
theorem d_P_openOverflow_10 : decode prog_4_method_12_code 10 = .ok (.bipush 8, 2) := by decide +kernel
theorem d_P_openOverflow_12 : decode prog_4_method_12_code 12 = .ok (.imul, 1) := by decide +kernel
theorem d_P_openOverflow_13 : decode prog_4_method_12_code 13 = .ok (.istore_n 3, 1) := by decide +kernel
theorem d_P_openOverflow_14 : decode prog_4_method_12_code 14 = .ok (.iload_n 3, 1) := by decide +kernel
theorem d_P_openOverflow_15 : decode prog_4_method_12_code 15 = .ok (.iload_n 1, 1) := by decide +kernel
theorem d_P_openOverflow_16 : decode prog_4_method_12_code 16 = .ok (.iconst 1, 1) := by decide +kernel
theorem d_P_openOverflow_17 : decode prog_4_method_12_code 17 = .ok (.iadd, 1) := by decide +kernel
theorem d_P_openOverflow_18 : decode prog_4_method_12_code 18 = .ok (.bipush 8, 2) := by decide +kernel
theorem d_P_openOverflow_20 : decode prog_4_method_12_code 20 = .ok (.imul, 1) := by decide +kernel
theorem d_P_openOverflow_21 : decode prog_4_method_12_code 21 = .ok (.if_icmp .ge 20, 3) := by decide +kernel
theorem d_P_openOverflow_24 : decode prog_4_method_12_code 24 = .ok (.aload_n 0, 1) := by decide +kernel
theorem d_P_openOverflow_25 : decode prog_4_method_12_code 25 = .ok (.iload_n 3, 1) := by decide +kernel
theorem d_P_openOverflow_26 : decode prog_4_method_12_code 26 = .ok (.invokevirtual 59, 3) := by decide +kernel
theorem d_P_openOverflow_29 : decode prog_4_method_12_code 29 = .ok (.ifCond .eq 6, 3) := by decide +kernel
theorem d_P_openOverflow_32 : decode prog_4_method_12_code 32 = .ok (.iinc 2 1, 3) := by decide +kernel
theorem d_P_openOverflow_35 : decode prog_4_method_12_code 35 = .ok (.iinc 3 1, 3) := by decide +kernel
theorem d_P_openOverflow_38 : decode prog_4_method_12_code 38 = .ok (.goto (-24), 3) := by decide +kernel
theorem d_P_openOverflow_41 : decode prog_4_method_12_code 41 = .ok (.iload_n 2, 1) := by decide +kernel
theorem d_P_openOverflow_42 : decode prog_4_method_12_code 42 = .ok (.bipush 8, 2) := by decide +kernel
theorem d_P_openOverflow_44 : decode prog_4_method_12_code 44 = .ok (.if_icmp .ne 22, 3) := by decide +kernel
theorem d_P_openOverflow_47 : decode prog_4_method_12_code 47 = .ok (.aload_n 0, 1) := by decide +kernel
theorem d_P_openOverflow_48 : decode prog_4_method_12_code 48 = .ok (.getfield 26, 3) := by decide +kernel
theorem d_P_openOverflow_51 : decode prog_4_method_12_code 51 = .ok (.iload_n 1, 1) := by decide +kernel
theorem d_P_openOverflow_52 : decode prog_4_method_12_code 52 = .ok (.bipush 8, 2) := by decide +kernel
theorem d_P_openOverflow_54 : decode prog_4_method_12_code 54 = .ok (.imul, 1) := by decide +kernel
theorem d_P_openOverflow_55 : decode prog_4_method_12_code 55 = .ok (.iload_n 1, 1) := by decide +kernel
theorem d_P_openOverflow_56 : decode prog_4_method_12_code 56 = .ok (.iconst 1, 1) := by decide +kernel
theorem d_P_openOverflow_57 : decode prog_4_method_12_code 57 = .ok (.iadd, 1) := by decide +kernel
theorem d_P_openOverflow_58 : decode prog_4_method_12_code 58 = .ok (.bipush 8, 2) := by decide +kernel
theorem d_P_openOverflow_60 : decode prog_4_method_12_code 60 = .ok (.imul, 1) := by decide +kernel
theorem d_P_openOverflow_61 : decode prog_4_method_12_code 61 = .ok (.invokevirtual 37, 3) := by decide +kernel
theorem d_P_openOverflow_64 : decode prog_4_method_12_code 64 = .ok (.iconst 1, 1) := by decide +kernel
theorem d_P_openOverflow_65 : decode prog_4_method_12_code 65 = .ok (.ireturn, 1) := by decide +kernel
theorem d_P_openOverflow_66 : decode prog_4_method_12_code 66 = .ok (.iinc 1 1, 3) := by decide +kernel
theorem d_P_openOverflow_69 : decode prog_4_method_12_code 69 = .ok (.goto (-67), 3) := by decide +kernel
theorem d_P_openOverflow_72 : decode prog_4_method_12_code 72 = .ok (.iconst 0, 1) := by decide +kernel
theorem d_P_openOverflow_73 : decode prog_4_method_12_code 73 = .ok (.ireturn, 1) := by decide +kernel
theorem d_S_endLine_0 : decode prog_6_method_6_code 0 = .ok (.aload_n 0, 1) := by decide +kernel
theorem d_S_endLine_1 : decode prog_6_method_6_code 1 = .ok (.getfield 18, 3) := by decide +kernel
theorem d_S_endLine_4 : decode prog_6_method_6_code 4 = .ok (.iconst 4, 1) := by decide +kernel
theorem d_S_endLine_5 : decode prog_6_method_6_code 5 = .ok (.idiv, 1) := by decide +kernel
theorem d_S_endLine_6 : decode prog_6_method_6_code 6 = .ok (.ireturn, 1) := by decide +kernel
theorem d_P_openHole_0 : decode prog_4_method_11_code 0 = .ok (.aload_n 0, 1) := by decide +kernel
theorem d_P_openHole_1 : decode prog_4_method_11_code 1 = .ok (.getfield 22, 3) := by decide +kernel
theorem d_P_openHole_4 : decode prog_4_method_11_code 4 = .ok (.invokevirtual 55, 3) := by decide +kernel
theorem d_P_openHole_7 : decode prog_4_method_11_code 7 = .ok (.istore_n 1, 1) := by decide +kernel
theorem d_P_openHole_8 : decode prog_4_method_11_code 8 = .ok (.iconst 0, 1) := by decide +kernel
theorem d_P_openHole_9 : decode prog_4_method_11_code 9 = .ok (.istore_n 2, 1) := by decide +kernel
theorem d_P_openHole_10 : decode prog_4_method_11_code 10 = .ok (.iload_n 2, 1) := by decide +kernel
theorem d_P_openHole_11 : decode prog_4_method_11_code 11 = .ok (.bipush 32, 2) := by decide +kernel
theorem d_P_openHole_13 : decode prog_4_method_11_code 13 = .ok (.if_icmp .ge 74, 3) := by decide +kernel
theorem d_P_openHole_16 : decode prog_4_method_11_code 16 = .ok (.iload_n 1, 1) := by decide +kernel
theorem d_P_openHole_17 : decode prog_4_method_11_code 17 = .ok (.iload_n 2, 1) := by decide +kernel
theorem d_P_openHole_18 : decode prog_4_method_11_code 18 = .ok (.iadd, 1) := by decide +kernel
theorem d_P_openHole_19 : decode prog_4_method_11_code 19 = .ok (.bipush 32, 2) := by decide +kernel
theorem d_P_openHole_21 : decode prog_4_method_11_code 21 = .ok (.irem, 1) := by decide +kernel
theorem d_P_openHole_22 : decode prog_4_method_11_code 22 = .ok (.istore_n 3, 1) := by decide +kernel
theorem d_P_openHole_23 : decode prog_4_method_11_code 23 = .ok (.aload_n 0, 1) := by decide +kernel
theorem d_P_openHole_24 : decode prog_4_method_11_code 24 = .ok (.iload_n 3, 1) := by decide +kernel
theorem d_P_openHole_25 : decode prog_4_method_11_code 25 = .ok (.invokevirtual 59, 3) := by decide +kernel
theorem d_P_openHole_28 : decode prog_4_method_11_code 28 = .ok (.ifCond .eq 53, 3) := by decide +kernel
theorem d_P_openHole_31 : decode prog_4_method_11_code 31 = .ok (.iload_n 3, 1) := by decide +kernel
theorem d_P_openHole_32 : decode prog_4_method_11_code 32 = .ok (.bipush 8, 2) := by decide +kernel
theorem d_P_openHole_34 : decode prog_4_method_11_code 34 = .ok (.idiv, 1) := by decide +kernel
theorem d_P_openHole_35 : decode prog_4_method_11_code 35 = .ok (.iconst 1, 1) := by decide +kernel
theorem d_P_openHole_36 : decode prog_4_method_11_code 36 = .ok (.iadd, 1) := by decide +kernel
theorem d_P_openHole_37 : decode prog_4_method_11_code 37 = .ok (.bipush 8, 2) := by decide +kernel
theorem d_P_openHole_39 : decode prog_4_method_11_code 39 = .ok (.imul, 1) := by decide +kernel
theorem d_P_openHole_40 : decode prog_4_method_11_code 40 = .ok (.istore 4, 2) := by decide +kernel
theorem d_P_openHole_42 : decode prog_4_method_11_code 42 = .ok (.iload_n 3, 1) := by decide +kernel
theorem d_P_openHole_43 : decode prog_4_method_11_code 43 = .ok (.iconst 1, 1) := by decide +kernel
theorem d_P_openHole_44 : decode prog_4_method_11_code 44 = .ok (.iadd, 1) := by decide +kernel
theorem d_P_openHole_45 : decode prog_4_method_11_code 45 = .ok (.istore 5, 2) := by decide +kernel
theorem d_P_openHole_47 : decode prog_4_method_11_code 47 = .ok (.iload 5, 2) := by decide +kernel
theorem d_P_openHole_49 : decode prog_4_method_11_code 49 = .ok (.iload 4, 2) := by decide +kernel
theorem d_P_openHole_51 : decode prog_4_method_11_code 51 = .ok (.if_icmp .ge 18, 3) := by decide +kernel
theorem d_P_openHole_54 : decode prog_4_method_11_code 54 = .ok (.aload_n 0, 1) := by decide +kernel
theorem d_P_openHole_55 : decode prog_4_method_11_code 55 = .ok (.iload 5, 2) := by decide +kernel
theorem d_P_openHole_57 : decode prog_4_method_11_code 57 = .ok (.invokevirtual 59, 3) := by decide +kernel
theorem d_P_openHole_60 : decode prog_4_method_11_code 60 = .ok (.ifCond .eq 9, 3) := by decide +kernel
theorem d_P_openHole_63 : decode prog_4_method_11_code 63 = .ok (.iinc 5 1, 3) := by decide +kernel
theorem d_P_openHole_66 : decode prog_4_method_11_code 66 = .ok (.goto (-19), 3) := by decide +kernel
theorem d_P_openHole_69 : decode prog_4_method_11_code 69 = .ok (.aload_n 0, 1) := by decide +kernel
theorem d_P_openHole_70 : decode prog_4_method_11_code 70 = .ok (.getfield 22, 3) := by decide +kernel
theorem d_P_openHole_73 : decode prog_4_method_11_code 73 = .ok (.iload_n 3, 1) := by decide +kernel
theorem d_P_openHole_74 : decode prog_4_method_11_code 74 = .ok (.iload 5, 2) := by decide +kernel
theorem d_P_openHole_76 : decode prog_4_method_11_code 76 = .ok (.invokevirtual 37, 3) := by decide +kernel
theorem d_P_openHole_79 : decode prog_4_method_11_code 79 = .ok (.iconst 1, 1) := by decide +kernel
theorem d_P_openHole_80 : decode prog_4_method_11_code 80 = .ok (.ireturn, 1) := by decide +kernel
theorem d_P_openHole_81 : decode prog_4_method_11_code 81 = .ok (.iinc 2 1, 3) := by decide +kernel
theorem d_P_openHole_84 : decode prog_4_method_11_code 84 = .ok (.goto (-74), 3) := by decide +kernel
theorem d_P_openHole_87 : decode prog_4_method_11_code 87 = .ok (.iconst 0, 1) := by decide +kernel
theorem d_P_openHole_88 : decode prog_4_method_11_code 88 = .ok (.ireturn, 1) := by decide +kernel
theorem d_P_find_0 : decode prog_4_method_10_code 0 = .ok (.aload_n 0, 1) := by decide +kernel
theorem d_P_find_1 : decode prog_4_method_10_code 1 = .ok (.getfield 22, 3) := by decide +kernel
theorem d_P_find_4 : decode prog_4_method_10_code 4 = .ok (.iload_n 1, 1) := by decide +kernel
theorem d_P_find_5 : decode prog_4_method_10_code 5 = .ok (.invokevirtual 41, 3) := by decide +kernel
theorem d_P_find_8 : decode prog_4_method_10_code 8 = .ok (.ifCond .eq 12, 3) := by decide +kernel
theorem d_P_find_11 : decode prog_4_method_10_code 11 = .ok (.aload_n 0, 1) := by decide +kernel
theorem d_P_find_12 : decode prog_4_method_10_code 12 = .ok (.getfield 22, 3) := by decide +kernel
theorem d_P_find_15 : decode prog_4_method_10_code 15 = .ok (.iload_n 1, 1) := by decide +kernel
theorem d_P_find_16 : decode prog_4_method_10_code 16 = .ok (.invokevirtual 44, 3) := by decide +kernel
theorem d_P_find_19 : decode prog_4_method_10_code 19 = .ok (.ireturn, 1) := by decide +kernel
theorem d_P_find_20 : decode prog_4_method_10_code 20 = .ok (.iload_n 1, 1) := by decide +kernel
theorem d_P_find_21 : decode prog_4_method_10_code 21 = .ok (.iconst 4, 1) := by decide +kernel
theorem d_P_find_22 : decode prog_4_method_10_code 22 = .ok (.if_icmp .gt 23, 3) := by decide +kernel
theorem d_P_find_25 : decode prog_4_method_10_code 25 = .ok (.aload_n 0, 1) := by decide +kernel
theorem d_P_find_26 : decode prog_4_method_10_code 26 = .ok (.invokevirtual 48, 3) := by decide +kernel
theorem d_P_find_29 : decode prog_4_method_10_code 29 = .ok (.ifCond .eq 14, 3) := by decide +kernel
theorem d_P_find_32 : decode prog_4_method_10_code 32 = .ok (.aload_n 0, 1) := by decide +kernel
theorem d_P_find_33 : decode prog_4_method_10_code 33 = .ok (.getfield 22, 3) := by decide +kernel
theorem d_P_find_36 : decode prog_4_method_10_code 36 = .ok (.iload_n 1, 1) := by decide +kernel
theorem d_P_find_37 : decode prog_4_method_10_code 37 = .ok (.invokevirtual 44, 3) := by decide +kernel
theorem d_P_find_40 : decode prog_4_method_10_code 40 = .ok (.goto 4, 3) := by decide +kernel
theorem d_P_find_43 : decode prog_4_method_10_code 43 = .ok (.iconst (-1), 1) := by decide +kernel
theorem d_P_find_44 : decode prog_4_method_10_code 44 = .ok (.ireturn, 1) := by decide +kernel
theorem d_P_find_45 : decode prog_4_method_10_code 45 = .ok (.aload_n 0, 1) := by decide +kernel
theorem d_P_find_46 : decode prog_4_method_10_code 46 = .ok (.getfield 26, 3) := by decide +kernel
theorem d_P_find_49 : decode prog_4_method_10_code 49 = .ok (.iload_n 1, 1) := by decide +kernel
theorem d_P_find_50 : decode prog_4_method_10_code 50 = .ok (.invokevirtual 41, 3) := by decide +kernel
theorem d_P_find_53 : decode prog_4_method_10_code 53 = .ok (.ifCond .ne 10, 3) := by decide +kernel
theorem d_P_find_56 : decode prog_4_method_10_code 56 = .ok (.aload_n 0, 1) := by decide +kernel
theorem d_P_find_57 : decode prog_4_method_10_code 57 = .ok (.invokevirtual 52, 3) := by decide +kernel
theorem d_P_find_60 : decode prog_4_method_10_code 60 = .ok (.ifCond .eq 12, 3) := by decide +kernel
theorem d_P_find_63 : decode prog_4_method_10_code 63 = .ok (.aload_n 0, 1) := by decide +kernel
theorem d_P_find_64 : decode prog_4_method_10_code 64 = .ok (.getfield 26, 3) := by decide +kernel
theorem d_P_find_67 : decode prog_4_method_10_code 67 = .ok (.iload_n 1, 1) := by decide +kernel
theorem d_P_find_68 : decode prog_4_method_10_code 68 = .ok (.invokevirtual 44, 3) := by decide +kernel
theorem d_P_find_71 : decode prog_4_method_10_code 71 = .ok (.ireturn, 1) := by decide +kernel
theorem d_P_find_72 : decode prog_4_method_10_code 72 = .ok (.iconst (-1), 1) := by decide +kernel
theorem d_P_find_73 : decode prog_4_method_10_code 73 = .ok (.ireturn, 1) := by decide +kernel
theorem d_I_init_0 : decode prog_2_method_1_code 0 = .ok (.aload_n 0, 1) := by decide +kernel
theorem d_I_init_1 : decode prog_2_method_1_code 1 = .ok (.invokespecial 3, 3) := by decide +kernel
theorem d_I_init_4 : decode prog_2_method_1_code 4 = .ok (.aload_n 0, 1) := by decide +kernel
theorem d_I_init_5 : decode prog_2_method_1_code 5 = .ok (.iload_n 1, 1) := by decide +kernel
theorem d_I_init_6 : decode prog_2_method_1_code 6 = .ok (.putfield 9, 3) := by decide +kernel
theorem d_I_init_9 : decode prog_2_method_1_code 9 = .ok (.aload_n 0, 1) := by decide +kernel
theorem d_I_init_10 : decode prog_2_method_1_code 10 = .ok (.iload_n 2, 1) := by decide +kernel
theorem d_I_init_11 : decode prog_2_method_1_code 11 = .ok (.putfield 15, 3) := by decide +kernel
theorem d_I_init_14 : decode prog_2_method_1_code 14 = .ok (.aload_n 0, 1) := by decide +kernel
theorem d_I_init_15 : decode prog_2_method_1_code 15 = .ok (.iload_n 1, 1) := by decide +kernel
theorem d_I_init_16 : decode prog_2_method_1_code 16 = .ok (.anewarray 10, 3) := by decide +kernel
theorem d_I_init_19 : decode prog_2_method_1_code 19 = .ok (.putfield 18, 3) := by decide +kernel
theorem d_I_init_22 : decode prog_2_method_1_code 22 = .ok (.aload_n 0, 1) := by decide +kernel
theorem d_I_init_23 : decode prog_2_method_1_code 23 = .ok (.iload_n 1, 1) := by decide +kernel
theorem d_I_init_24 : decode prog_2_method_1_code 24 = .ok (.newarray .boolean, 2) := by decide +kernel
theorem d_I_init_26 : decode prog_2_method_1_code 26 = .ok (.putfield 22, 3) := by decide +kernel
theorem d_I_init_29 : decode prog_2_method_1_code 29 = .ok (.return_, 1) := by decide +kernel
theorem d_P_occupy_0 : decode prog_4_method_4_code 0 = .ok (.iload_n 1, 1) := by decide +kernel
theorem d_P_occupy_1 : decode prog_4_method_4_code 1 = .ok (.istore_n 3, 1) := by decide +kernel
theorem d_P_occupy_2 : decode prog_4_method_4_code 2 = .ok (.iload_n 3, 1) := by decide +kernel
theorem d_P_occupy_3 : decode prog_4_method_4_code 3 = .ok (.iload_n 1, 1) := by decide +kernel
theorem d_P_occupy_4 : decode prog_4_method_4_code 4 = .ok (.iload_n 2, 1) := by decide +kernel
theorem d_P_occupy_5 : decode prog_4_method_4_code 5 = .ok (.iadd, 1) := by decide +kernel
theorem d_P_occupy_6 : decode prog_4_method_4_code 6 = .ok (.if_icmp .ge 21, 3) := by decide +kernel
theorem d_P_occupy_9 : decode prog_4_method_4_code 9 = .ok (.aload_n 0, 1) := by decide +kernel
theorem d_P_occupy_10 : decode prog_4_method_4_code 10 = .ok (.getfield 9, 3) := by decide +kernel
theorem d_P_occupy_13 : decode prog_4_method_4_code 13 = .ok (.iload_n 3, 1) := by decide +kernel
theorem d_P_occupy_14 : decode prog_4_method_4_code 14 = .ok (.iconst 4, 1) := by decide +kernel
theorem d_P_occupy_15 : decode prog_4_method_4_code 15 = .ok (.idiv, 1) := by decide +kernel
theorem d_P_occupy_16 : decode prog_4_method_4_code 16 = .ok (.dup2, 1) := by decide +kernel
theorem d_P_occupy_17 : decode prog_4_method_4_code 17 = .ok (.iaload, 1) := by decide +kernel
theorem d_P_occupy_18 : decode prog_4_method_4_code 18 = .ok (.iconst 1, 1) := by decide +kernel
theorem d_P_occupy_19 : decode prog_4_method_4_code 19 = .ok (.iadd, 1) := by decide +kernel
theorem d_P_occupy_20 : decode prog_4_method_4_code 20 = .ok (.iastore, 1) := by decide +kernel
theorem d_P_occupy_21 : decode prog_4_method_4_code 21 = .ok (.iinc 3 1, 3) := by decide +kernel
theorem d_P_occupy_24 : decode prog_4_method_4_code 24 = .ok (.goto (-22), 3) := by decide +kernel
theorem d_P_occupy_27 : decode prog_4_method_4_code 27 = .ok (.return_, 1) := by decide +kernel
theorem d_C_settle_0 : decode prog_1_method_22_code 0 = .ok (.aload_n 1, 1) := by decide +kernel
theorem d_C_settle_1 : decode prog_1_method_22_code 1 = .ok (.iload_n 2, 1) := by decide +kernel
theorem d_C_settle_2 : decode prog_1_method_22_code 2 = .ok (.putfield 191, 3) := by decide +kernel
theorem d_C_settle_5 : decode prog_1_method_22_code 5 = .ok (.aload_n 0, 1) := by decide +kernel
theorem d_C_settle_6 : decode prog_1_method_22_code 6 = .ok (.getfield 18, 3) := by decide +kernel
theorem d_C_settle_9 : decode prog_1_method_22_code 9 = .ok (.iload_n 2, 1) := by decide +kernel
theorem d_C_settle_10 : decode prog_1_method_22_code 10 = .ok (.aload_n 1, 1) := by decide +kernel
theorem d_C_settle_11 : decode prog_1_method_22_code 11 = .ok (.aastore, 1) := by decide +kernel
theorem d_C_settle_12 : decode prog_1_method_22_code 12 = .ok (.aload_n 0, 1) := by decide +kernel
theorem d_C_settle_13 : decode prog_1_method_22_code 13 = .ok (.getfield 24, 3) := by decide +kernel
theorem d_C_settle_16 : decode prog_1_method_22_code 16 = .ok (.iload_n 2, 1) := by decide +kernel
theorem d_C_settle_17 : decode prog_1_method_22_code 17 = .ok (.aload_n 1, 1) := by decide +kernel
theorem d_C_settle_18 : decode prog_1_method_22_code 18 = .ok (.getfield 160, 3) := by decide +kernel
theorem d_C_settle_21 : decode prog_1_method_22_code 21 = .ok (.invokevirtual 194, 3) := by decide +kernel
theorem d_C_settle_24 : decode prog_1_method_22_code 24 = .ok (.return_, 1) := by decide +kernel
theorem d_W_takeFirst_0 : decode prog_5_method_4_code 0 = .ok (.aload_n 0, 1) := by decide +kernel
theorem d_W_takeFirst_1 : decode prog_5_method_4_code 1 = .ok (.getfield 17, 3) := by decide +kernel
theorem d_W_takeFirst_4 : decode prog_5_method_4_code 4 = .ok (.ifCond .ne 5, 3) := by decide +kernel
theorem d_W_takeFirst_7 : decode prog_5_method_4_code 7 = .ok (.aconst_null, 1) := by decide +kernel
theorem d_W_takeFirst_8 : decode prog_5_method_4_code 8 = .ok (.areturn, 1) := by decide +kernel
theorem d_W_takeFirst_9 : decode prog_5_method_4_code 9 = .ok (.aload_n 0, 1) := by decide +kernel
theorem d_W_takeFirst_10 : decode prog_5_method_4_code 10 = .ok (.getfield 11, 3) := by decide +kernel
theorem d_W_takeFirst_13 : decode prog_5_method_4_code 13 = .ok (.aload_n 0, 1) := by decide +kernel
theorem d_W_takeFirst_14 : decode prog_5_method_4_code 14 = .ok (.getfield 21, 3) := by decide +kernel
theorem d_W_takeFirst_17 : decode prog_5_method_4_code 17 = .ok (.aaload, 1) := by decide +kernel
theorem d_W_takeFirst_18 : decode prog_5_method_4_code 18 = .ok (.astore_n 1, 1) := by decide +kernel
theorem d_W_takeFirst_19 : decode prog_5_method_4_code 19 = .ok (.aload_n 0, 1) := by decide +kernel
theorem d_W_takeFirst_20 : decode prog_5_method_4_code 20 = .ok (.aload_n 0, 1) := by decide +kernel
theorem d_W_takeFirst_21 : decode prog_5_method_4_code 21 = .ok (.getfield 21, 3) := by decide +kernel
theorem d_W_takeFirst_24 : decode prog_5_method_4_code 24 = .ok (.iconst 1, 1) := by decide +kernel
theorem d_W_takeFirst_25 : decode prog_5_method_4_code 25 = .ok (.iadd, 1) := by decide +kernel
theorem d_W_takeFirst_26 : decode prog_5_method_4_code 26 = .ok (.sipush 262, 3) := by decide +kernel
theorem d_W_takeFirst_29 : decode prog_5_method_4_code 29 = .ok (.irem, 1) := by decide +kernel
theorem d_W_takeFirst_30 : decode prog_5_method_4_code 30 = .ok (.putfield 21, 3) := by decide +kernel
theorem d_W_takeFirst_33 : decode prog_5_method_4_code 33 = .ok (.aload_n 0, 1) := by decide +kernel
theorem d_W_takeFirst_34 : decode prog_5_method_4_code 34 = .ok (.dup, 1) := by decide +kernel
theorem d_W_takeFirst_35 : decode prog_5_method_4_code 35 = .ok (.getfield 17, 3) := by decide +kernel
theorem d_W_takeFirst_38 : decode prog_5_method_4_code 38 = .ok (.iconst 1, 1) := by decide +kernel
theorem d_W_takeFirst_39 : decode prog_5_method_4_code 39 = .ok (.isub, 1) := by decide +kernel
theorem d_W_takeFirst_40 : decode prog_5_method_4_code 40 = .ok (.putfield 17, 3) := by decide +kernel
theorem d_W_takeFirst_43 : decode prog_5_method_4_code 43 = .ok (.aload_n 1, 1) := by decide +kernel
theorem d_W_takeFirst_44 : decode prog_5_method_4_code 44 = .ok (.areturn, 1) := by decide +kernel
theorem d_P_vacate_0 : decode prog_4_method_5_code 0 = .ok (.iload_n 1, 1) := by decide +kernel
theorem d_P_vacate_1 : decode prog_4_method_5_code 1 = .ok (.istore_n 3, 1) := by decide +kernel
theorem d_P_vacate_2 : decode prog_4_method_5_code 2 = .ok (.iload_n 3, 1) := by decide +kernel
theorem d_P_vacate_3 : decode prog_4_method_5_code 3 = .ok (.iload_n 1, 1) := by decide +kernel
theorem d_P_vacate_4 : decode prog_4_method_5_code 4 = .ok (.iload_n 2, 1) := by decide +kernel
theorem d_P_vacate_5 : decode prog_4_method_5_code 5 = .ok (.iadd, 1) := by decide +kernel
theorem d_P_vacate_6 : decode prog_4_method_5_code 6 = .ok (.if_icmp .ge 21, 3) := by decide +kernel
theorem d_P_vacate_9 : decode prog_4_method_5_code 9 = .ok (.aload_n 0, 1) := by decide +kernel
theorem d_P_vacate_10 : decode prog_4_method_5_code 10 = .ok (.getfield 9, 3) := by decide +kernel
theorem d_P_vacate_13 : decode prog_4_method_5_code 13 = .ok (.iload_n 3, 1) := by decide +kernel
theorem d_P_vacate_14 : decode prog_4_method_5_code 14 = .ok (.iconst 4, 1) := by decide +kernel
theorem d_P_vacate_15 : decode prog_4_method_5_code 15 = .ok (.idiv, 1) := by decide +kernel
theorem d_P_vacate_16 : decode prog_4_method_5_code 16 = .ok (.dup2, 1) := by decide +kernel
theorem d_P_vacate_17 : decode prog_4_method_5_code 17 = .ok (.iaload, 1) := by decide +kernel
theorem d_P_vacate_18 : decode prog_4_method_5_code 18 = .ok (.iconst 1, 1) := by decide +kernel
theorem d_P_vacate_19 : decode prog_4_method_5_code 19 = .ok (.isub, 1) := by decide +kernel
theorem d_P_vacate_20 : decode prog_4_method_5_code 20 = .ok (.iastore, 1) := by decide +kernel
theorem d_P_vacate_21 : decode prog_4_method_5_code 21 = .ok (.iinc 3 1, 3) := by decide +kernel
theorem d_P_vacate_24 : decode prog_4_method_5_code 24 = .ok (.goto (-22), 3) := by decide +kernel
theorem d_P_vacate_27 : decode prog_4_method_5_code 27 = .ok (.return_, 1) := by decide +kernel
theorem d_C_remove_0 : decode prog_1_method_24_code 0 = .ok (.aload_n 0, 1) := by decide +kernel
theorem d_C_remove_1 : decode prog_1_method_24_code 1 = .ok (.getfield 18, 3) := by decide +kernel
theorem d_C_remove_4 : decode prog_1_method_24_code 4 = .ok (.aload_n 1, 1) := by decide +kernel
theorem d_C_remove_5 : decode prog_1_method_24_code 5 = .ok (.getfield 191, 3) := by decide +kernel
theorem d_C_remove_8 : decode prog_1_method_24_code 8 = .ok (.aconst_null, 1) := by decide +kernel
theorem d_C_remove_9 : decode prog_1_method_24_code 9 = .ok (.aastore, 1) := by decide +kernel
theorem d_C_remove_10 : decode prog_1_method_24_code 10 = .ok (.aload_n 0, 1) := by decide +kernel
theorem d_C_remove_11 : decode prog_1_method_24_code 11 = .ok (.getfield 24, 3) := by decide +kernel
theorem d_C_remove_14 : decode prog_1_method_24_code 14 = .ok (.aload_n 1, 1) := by decide +kernel
theorem d_C_remove_15 : decode prog_1_method_24_code 15 = .ok (.getfield 191, 3) := by decide +kernel
theorem d_C_remove_18 : decode prog_1_method_24_code 18 = .ok (.aload_n 1, 1) := by decide +kernel
theorem d_C_remove_19 : decode prog_1_method_24_code 19 = .ok (.getfield 160, 3) := by decide +kernel
theorem d_C_remove_22 : decode prog_1_method_24_code 22 = .ok (.invokevirtual 200, 3) := by decide +kernel
theorem d_C_remove_25 : decode prog_1_method_24_code 25 = .ok (.return_, 1) := by decide +kernel
theorem d_W_add_0 : decode prog_5_method_2_code 0 = .ok (.aload_n 0, 1) := by decide +kernel
theorem d_W_add_1 : decode prog_5_method_2_code 1 = .ok (.getfield 17, 3) := by decide +kernel
theorem d_W_add_4 : decode prog_5_method_2_code 4 = .ok (.sipush 262, 3) := by decide +kernel
theorem d_W_add_7 : decode prog_5_method_2_code 7 = .ok (.if_icmp .ge 32, 3) := by decide +kernel
theorem d_W_add_10 : decode prog_5_method_2_code 10 = .ok (.aload_n 0, 1) := by decide +kernel
theorem d_W_add_11 : decode prog_5_method_2_code 11 = .ok (.getfield 11, 3) := by decide +kernel
theorem d_W_add_14 : decode prog_5_method_2_code 14 = .ok (.aload_n 0, 1) := by decide +kernel
theorem d_W_add_15 : decode prog_5_method_2_code 15 = .ok (.getfield 21, 3) := by decide +kernel
theorem d_W_add_18 : decode prog_5_method_2_code 18 = .ok (.aload_n 0, 1) := by decide +kernel
theorem d_W_add_19 : decode prog_5_method_2_code 19 = .ok (.getfield 17, 3) := by decide +kernel
theorem d_W_add_22 : decode prog_5_method_2_code 22 = .ok (.iadd, 1) := by decide +kernel
theorem d_W_add_23 : decode prog_5_method_2_code 23 = .ok (.sipush 262, 3) := by decide +kernel
theorem d_W_add_26 : decode prog_5_method_2_code 26 = .ok (.irem, 1) := by decide +kernel
theorem d_W_add_27 : decode prog_5_method_2_code 27 = .ok (.aload_n 1, 1) := by decide +kernel
theorem d_W_add_28 : decode prog_5_method_2_code 28 = .ok (.aastore, 1) := by decide +kernel
theorem d_W_add_29 : decode prog_5_method_2_code 29 = .ok (.aload_n 0, 1) := by decide +kernel
theorem d_W_add_30 : decode prog_5_method_2_code 30 = .ok (.dup, 1) := by decide +kernel
theorem d_W_add_31 : decode prog_5_method_2_code 31 = .ok (.getfield 17, 3) := by decide +kernel
theorem d_W_add_34 : decode prog_5_method_2_code 34 = .ok (.iconst 1, 1) := by decide +kernel
theorem d_W_add_35 : decode prog_5_method_2_code 35 = .ok (.iadd, 1) := by decide +kernel
theorem d_W_add_36 : decode prog_5_method_2_code 36 = .ok (.putfield 17, 3) := by decide +kernel
theorem d_W_add_39 : decode prog_5_method_2_code 39 = .ok (.return_, 1) := by decide +kernel
theorem d_I_isOld_0 : decode prog_2_method_3_code 0 = .ok (.aload_n 0, 1) := by decide +kernel
theorem d_I_isOld_1 : decode prog_2_method_3_code 1 = .ok (.getfield 26, 3) := by decide +kernel
theorem d_I_isOld_4 : decode prog_2_method_3_code 4 = .ok (.ifCond .le 7, 3) := by decide +kernel
theorem d_I_isOld_7 : decode prog_2_method_3_code 7 = .ok (.iconst 1, 1) := by decide +kernel
theorem d_I_isOld_8 : decode prog_2_method_3_code 8 = .ok (.goto 4, 3) := by decide +kernel
theorem d_I_isOld_11 : decode prog_2_method_3_code 11 = .ok (.iconst 0, 1) := by decide +kernel
theorem d_I_isOld_12 : decode prog_2_method_3_code 12 = .ok (.ireturn, 1) := by decide +kernel
theorem d_I_isWhite_0 : decode prog_2_method_4_code 0 = .ok (.aload_n 0, 1) := by decide +kernel
theorem d_I_isWhite_1 : decode prog_2_method_4_code 1 = .ok (.invokevirtual 29, 3) := by decide +kernel
theorem d_I_isWhite_4 : decode prog_2_method_4_code 4 = .ok (.ifCond .eq 14, 3) := by decide +kernel
theorem d_I_isWhite_7 : decode prog_2_method_4_code 7 = .ok (.aload_n 0, 1) := by decide +kernel
theorem d_I_isWhite_8 : decode prog_2_method_4_code 8 = .ok (.getfield 33, 3) := by decide +kernel
theorem d_I_isWhite_11 : decode prog_2_method_4_code 11 = .ok (.ifCond .ne 7, 3) := by decide +kernel
theorem d_I_isWhite_14 : decode prog_2_method_4_code 14 = .ok (.iconst 1, 1) := by decide +kernel
theorem d_I_isWhite_15 : decode prog_2_method_4_code 15 = .ok (.goto 4, 3) := by decide +kernel
theorem d_I_isWhite_18 : decode prog_2_method_4_code 18 = .ok (.iconst 0, 1) := by decide +kernel
theorem d_I_isWhite_19 : decode prog_2_method_4_code 19 = .ok (.ireturn, 1) := by decide +kernel
theorem d_I_turnGreyIfWhite_0 : decode prog_2_method_6_code 0 = .ok (.aload_n 0, 1) := by decide +kernel
theorem d_I_turnGreyIfWhite_1 : decode prog_2_method_6_code 1 = .ok (.invokevirtual 36, 3) := by decide +kernel
theorem d_I_turnGreyIfWhite_4 : decode prog_2_method_6_code 4 = .ok (.ifCond .eq 8, 3) := by decide +kernel
theorem d_I_turnGreyIfWhite_7 : decode prog_2_method_6_code 7 = .ok (.aload_n 0, 1) := by decide +kernel
theorem d_I_turnGreyIfWhite_8 : decode prog_2_method_6_code 8 = .ok (.iconst 1, 1) := by decide +kernel
theorem d_I_turnGreyIfWhite_9 : decode prog_2_method_6_code 9 = .ok (.putfield 33, 3) := by decide +kernel
theorem d_I_turnGreyIfWhite_12 : decode prog_2_method_6_code 12 = .ok (.return_, 1) := by decide +kernel
theorem d_C_letGo_0 : decode prog_1_method_27_code 0 = .ok (.aload_n 0, 1) := by decide +kernel
theorem d_C_letGo_1 : decode prog_1_method_27_code 1 = .ok (.aload_n 1, 1) := by decide +kernel
theorem d_C_letGo_2 : decode prog_1_method_27_code 2 = .ok (.invokevirtual 215, 3) := by decide +kernel
theorem d_C_letGo_5 : decode prog_1_method_27_code 5 = .ok (.aload_n 1, 1) := by decide +kernel
theorem d_C_letGo_6 : decode prog_1_method_27_code 6 = .ok (.getfield 73, 3) := by decide +kernel
theorem d_C_letGo_9 : decode prog_1_method_27_code 9 = .ok (.astore_n 2, 1) := by decide +kernel
theorem d_C_letGo_10 : decode prog_1_method_27_code 10 = .ok (.aload_n 2, 1) := by decide +kernel
theorem d_C_letGo_11 : decode prog_1_method_27_code 11 = .ok (.arraylength, 1) := by decide +kernel
theorem d_C_letGo_12 : decode prog_1_method_27_code 12 = .ok (.istore_n 3, 1) := by decide +kernel
theorem d_C_letGo_13 : decode prog_1_method_27_code 13 = .ok (.iconst 0, 1) := by decide +kernel
theorem d_C_letGo_14 : decode prog_1_method_27_code 14 = .ok (.istore 4, 2) := by decide +kernel
theorem d_C_letGo_16 : decode prog_1_method_27_code 16 = .ok (.iload 4, 2) := by decide +kernel
theorem d_C_letGo_18 : decode prog_1_method_27_code 18 = .ok (.iload_n 3, 1) := by decide +kernel
theorem d_C_letGo_19 : decode prog_1_method_27_code 19 = .ok (.if_icmp .ge 45, 3) := by decide +kernel
theorem d_C_letGo_22 : decode prog_1_method_27_code 22 = .ok (.aload_n 2, 1) := by decide +kernel
theorem d_C_letGo_23 : decode prog_1_method_27_code 23 = .ok (.iload 4, 2) := by decide +kernel
theorem d_C_letGo_25 : decode prog_1_method_27_code 25 = .ok (.aaload, 1) := by decide +kernel
theorem d_C_letGo_26 : decode prog_1_method_27_code 26 = .ok (.astore 5, 2) := by decide +kernel
theorem d_C_letGo_28 : decode prog_1_method_27_code 28 = .ok (.aload 5, 2) := by decide +kernel
theorem d_C_letGo_30 : decode prog_1_method_27_code 30 = .ok (.ifnonnull 6, 3) := by decide +kernel
theorem d_C_letGo_33 : decode prog_1_method_27_code 33 = .ok (.goto 25, 3) := by decide +kernel
theorem d_C_letGo_36 : decode prog_1_method_27_code 36 = .ok (.aload_n 0, 1) := by decide +kernel
theorem d_C_letGo_37 : decode prog_1_method_27_code 37 = .ok (.getfield 38, 3) := by decide +kernel
theorem d_C_letGo_40 : decode prog_1_method_27_code 40 = .ok (.aload 5, 2) := by decide +kernel
theorem d_C_letGo_42 : decode prog_1_method_27_code 42 = .ok (.invokevirtual 218, 3) := by decide +kernel
theorem d_C_letGo_45 : decode prog_1_method_27_code 45 = .ok (.aload_n 1, 1) := by decide +kernel
theorem d_C_letGo_46 : decode prog_1_method_27_code 46 = .ok (.getfield 169, 3) := by decide +kernel
theorem d_C_letGo_49 : decode prog_1_method_27_code 49 = .ok (.iconst 1, 1) := by decide +kernel
theorem d_C_letGo_50 : decode prog_1_method_27_code 50 = .ok (.if_icmp .ne 8, 3) := by decide +kernel
theorem d_C_letGo_53 : decode prog_1_method_27_code 53 = .ok (.aload 5, 2) := by decide +kernel
theorem d_C_letGo_55 : decode prog_1_method_27_code 55 = .ok (.invokevirtual 220, 3) := by decide +kernel
theorem d_C_letGo_58 : decode prog_1_method_27_code 58 = .ok (.iinc 4 1, 3) := by decide +kernel
theorem d_C_letGo_61 : decode prog_1_method_27_code 61 = .ok (.goto (-45), 3) := by decide +kernel
theorem d_C_letGo_64 : decode prog_1_method_27_code 64 = .ok (.return_, 1) := by decide +kernel
theorem d_C_drainUpTo_0 : decode prog_1_method_26_code 0 = .ok (.iconst 0, 1) := by decide +kernel
theorem d_C_drainUpTo_1 : decode prog_1_method_26_code 1 = .ok (.istore_n 2, 1) := by decide +kernel
theorem d_C_drainUpTo_2 : decode prog_1_method_26_code 2 = .ok (.iload_n 2, 1) := by decide +kernel
theorem d_C_drainUpTo_3 : decode prog_1_method_26_code 3 = .ok (.iload_n 1, 1) := by decide +kernel
theorem d_C_drainUpTo_4 : decode prog_1_method_26_code 4 = .ok (.if_icmp .ge 64, 3) := by decide +kernel
theorem d_C_drainUpTo_7 : decode prog_1_method_26_code 7 = .ok (.aload_n 0, 1) := by decide +kernel
theorem d_C_drainUpTo_8 : decode prog_1_method_26_code 8 = .ok (.getfield 38, 3) := by decide +kernel
theorem d_C_drainUpTo_11 : decode prog_1_method_26_code 11 = .ok (.getfield 95, 3) := by decide +kernel
theorem d_C_drainUpTo_14 : decode prog_1_method_26_code 14 = .ok (.ifCond .le 54, 3) := by decide +kernel
theorem d_C_drainUpTo_17 : decode prog_1_method_26_code 17 = .ok (.aload_n 0, 1) := by decide +kernel
theorem d_C_drainUpTo_18 : decode prog_1_method_26_code 18 = .ok (.getfield 38, 3) := by decide +kernel
theorem d_C_drainUpTo_21 : decode prog_1_method_26_code 21 = .ok (.invokevirtual 207, 3) := by decide +kernel
theorem d_C_drainUpTo_24 : decode prog_1_method_26_code 24 = .ok (.astore_n 3, 1) := by decide +kernel
theorem d_C_drainUpTo_25 : decode prog_1_method_26_code 25 = .ok (.aload_n 3, 1) := by decide +kernel
theorem d_C_drainUpTo_26 : decode prog_1_method_26_code 26 = .ok (.ifnull 36, 3) := by decide +kernel
theorem d_C_drainUpTo_29 : decode prog_1_method_26_code 29 = .ok (.aload_n 3, 1) := by decide +kernel
theorem d_C_drainUpTo_30 : decode prog_1_method_26_code 30 = .ok (.getfield 166, 3) := by decide +kernel
theorem d_C_drainUpTo_33 : decode prog_1_method_26_code 33 = .ok (.iconst 3, 1) := by decide +kernel
theorem d_C_drainUpTo_34 : decode prog_1_method_26_code 34 = .ok (.if_icmp .ne 6, 3) := by decide +kernel
theorem d_C_drainUpTo_37 : decode prog_1_method_26_code 37 = .ok (.goto 25, 3) := by decide +kernel
theorem d_C_drainUpTo_40 : decode prog_1_method_26_code 40 = .ok (.aload_n 3, 1) := by decide +kernel
theorem d_C_drainUpTo_41 : decode prog_1_method_26_code 41 = .ok (.dup, 1) := by decide +kernel
theorem d_C_drainUpTo_42 : decode prog_1_method_26_code 42 = .ok (.getfield 166, 3) := by decide +kernel
theorem d_C_drainUpTo_45 : decode prog_1_method_26_code 45 = .ok (.iconst 1, 1) := by decide +kernel
theorem d_C_drainUpTo_46 : decode prog_1_method_26_code 46 = .ok (.isub, 1) := by decide +kernel
theorem d_C_drainUpTo_47 : decode prog_1_method_26_code 47 = .ok (.putfield 166, 3) := by decide +kernel
theorem d_C_drainUpTo_50 : decode prog_1_method_26_code 50 = .ok (.aload_n 3, 1) := by decide +kernel
theorem d_C_drainUpTo_51 : decode prog_1_method_26_code 51 = .ok (.getfield 166, 3) := by decide +kernel
theorem d_C_drainUpTo_54 : decode prog_1_method_26_code 54 = .ok (.ifCond .ne 8, 3) := by decide +kernel
theorem d_C_drainUpTo_57 : decode prog_1_method_26_code 57 = .ok (.aload_n 0, 1) := by decide +kernel
theorem d_C_drainUpTo_58 : decode prog_1_method_26_code 58 = .ok (.aload_n 3, 1) := by decide +kernel
theorem d_C_drainUpTo_59 : decode prog_1_method_26_code 59 = .ok (.invokevirtual 211, 3) := by decide +kernel
theorem d_C_drainUpTo_62 : decode prog_1_method_26_code 62 = .ok (.iinc 2 1, 3) := by decide +kernel
theorem d_C_drainUpTo_65 : decode prog_1_method_26_code 65 = .ok (.goto (-63), 3) := by decide +kernel
theorem d_C_drainUpTo_68 : decode prog_1_method_26_code 68 = .ok (.return_, 1) := by decide +kernel
theorem d_P_close_0 : decode prog_4_method_8_code 0 = .ok (.aload_n 0, 1) := by decide +kernel
theorem d_P_close_1 : decode prog_4_method_8_code 1 = .ok (.getfield 22, 3) := by decide +kernel
theorem d_P_close_4 : decode prog_4_method_8_code 4 = .ok (.iconst 0, 1) := by decide +kernel
theorem d_P_close_5 : decode prog_4_method_8_code 5 = .ok (.iconst 0, 1) := by decide +kernel
theorem d_P_close_6 : decode prog_4_method_8_code 6 = .ok (.invokevirtual 37, 3) := by decide +kernel
theorem d_P_close_9 : decode prog_4_method_8_code 9 = .ok (.aload_n 0, 1) := by decide +kernel
theorem d_P_close_10 : decode prog_4_method_8_code 10 = .ok (.getfield 26, 3) := by decide +kernel
theorem d_P_close_13 : decode prog_4_method_8_code 13 = .ok (.iconst 0, 1) := by decide +kernel
theorem d_P_close_14 : decode prog_4_method_8_code 14 = .ok (.iconst 0, 1) := by decide +kernel
theorem d_P_close_15 : decode prog_4_method_8_code 15 = .ok (.invokevirtual 37, 3) := by decide +kernel
theorem d_P_close_18 : decode prog_4_method_8_code 18 = .ok (.return_, 1) := by decide +kernel
theorem d_W_clear_0 : decode prog_5_method_6_code 0 = .ok (.aload_n 0, 1) := by decide +kernel
theorem d_W_clear_1 : decode prog_5_method_6_code 1 = .ok (.iconst 0, 1) := by decide +kernel
theorem d_W_clear_2 : decode prog_5_method_6_code 2 = .ok (.putfield 21, 3) := by decide +kernel
theorem d_W_clear_5 : decode prog_5_method_6_code 5 = .ok (.aload_n 0, 1) := by decide +kernel
theorem d_W_clear_6 : decode prog_5_method_6_code 6 = .ok (.iconst 0, 1) := by decide +kernel
theorem d_W_clear_7 : decode prog_5_method_6_code 7 = .ok (.putfield 17, 3) := by decide +kernel
theorem d_W_clear_10 : decode prog_5_method_6_code 10 = .ok (.return_, 1) := by decide +kernel
theorem d_G_heldNow_0 : decode prog_3_method_3_code 0 = .ok (.aload_n 0, 1) := by decide +kernel
theorem d_G_heldNow_1 : decode prog_3_method_3_code 1 = .ok (.getfield 11, 3) := by decide +kernel
theorem d_G_heldNow_4 : decode prog_3_method_3_code 4 = .ok (.iload_n 1, 1) := by decide +kernel
theorem d_G_heldNow_5 : decode prog_3_method_3_code 5 = .ok (.aaload, 1) := by decide +kernel
theorem d_G_heldNow_6 : decode prog_3_method_3_code 6 = .ok (.getfield 28, 3) := by decide +kernel
theorem d_G_heldNow_9 : decode prog_3_method_3_code 9 = .ok (.aload_n 0, 1) := by decide +kernel
theorem d_G_heldNow_10 : decode prog_3_method_3_code 10 = .ok (.getfield 17, 3) := by decide +kernel
theorem d_G_heldNow_13 : decode prog_3_method_3_code 13 = .ok (.iload_n 1, 1) := by decide +kernel
theorem d_G_heldNow_14 : decode prog_3_method_3_code 14 = .ok (.iaload, 1) := by decide +kernel
theorem d_G_heldNow_15 : decode prog_3_method_3_code 15 = .ok (.aaload, 1) := by decide +kernel
theorem d_G_heldNow_16 : decode prog_3_method_3_code 16 = .ok (.areturn, 1) := by decide +kernel
theorem d_C_gatherSlots_0 : decode prog_1_method_34_code 0 = .ok (.aload_n 0, 1) := by decide +kernel
theorem d_C_gatherSlots_1 : decode prog_1_method_34_code 1 = .ok (.getfield 42, 3) := by decide +kernel
theorem d_C_gatherSlots_4 : decode prog_1_method_34_code 4 = .ok (.invokevirtual 253, 3) := by decide +kernel
theorem d_C_gatherSlots_7 : decode prog_1_method_34_code 7 = .ok (.aload_n 0, 1) := by decide +kernel
theorem d_C_gatherSlots_8 : decode prog_1_method_34_code 8 = .ok (.getfield 11, 3) := by decide +kernel
theorem d_C_gatherSlots_11 : decode prog_1_method_34_code 11 = .ok (.astore_n 1, 1) := by decide +kernel
theorem d_C_gatherSlots_12 : decode prog_1_method_34_code 12 = .ok (.aload_n 1, 1) := by decide +kernel
theorem d_C_gatherSlots_13 : decode prog_1_method_34_code 13 = .ok (.arraylength, 1) := by decide +kernel
theorem d_C_gatherSlots_14 : decode prog_1_method_34_code 14 = .ok (.istore_n 2, 1) := by decide +kernel
theorem d_C_gatherSlots_15 : decode prog_1_method_34_code 15 = .ok (.iconst 0, 1) := by decide +kernel
theorem d_C_gatherSlots_16 : decode prog_1_method_34_code 16 = .ok (.istore_n 3, 1) := by decide +kernel
theorem d_C_gatherSlots_17 : decode prog_1_method_34_code 17 = .ok (.iload_n 3, 1) := by decide +kernel
theorem d_C_gatherSlots_18 : decode prog_1_method_34_code 18 = .ok (.iload_n 2, 1) := by decide +kernel
theorem d_C_gatherSlots_19 : decode prog_1_method_34_code 19 = .ok (.if_icmp .ge 23, 3) := by decide +kernel
theorem d_C_gatherSlots_22 : decode prog_1_method_34_code 22 = .ok (.aload_n 1, 1) := by decide +kernel
theorem d_C_gatherSlots_23 : decode prog_1_method_34_code 23 = .ok (.iload_n 3, 1) := by decide +kernel
theorem d_C_gatherSlots_24 : decode prog_1_method_34_code 24 = .ok (.aaload, 1) := by decide +kernel
theorem d_C_gatherSlots_25 : decode prog_1_method_34_code 25 = .ok (.astore 4, 2) := by decide +kernel
theorem d_C_gatherSlots_27 : decode prog_1_method_34_code 27 = .ok (.aload_n 0, 1) := by decide +kernel
theorem d_C_gatherSlots_28 : decode prog_1_method_34_code 28 = .ok (.getfield 42, 3) := by decide +kernel
theorem d_C_gatherSlots_31 : decode prog_1_method_34_code 31 = .ok (.aload 4, 2) := by decide +kernel
theorem d_C_gatherSlots_33 : decode prog_1_method_34_code 33 = .ok (.invokevirtual 218, 3) := by decide +kernel
theorem d_C_gatherSlots_36 : decode prog_1_method_34_code 36 = .ok (.iinc 3 1, 3) := by decide +kernel
theorem d_C_gatherSlots_39 : decode prog_1_method_34_code 39 = .ok (.goto (-22), 3) := by decide +kernel
theorem d_C_gatherSlots_42 : decode prog_1_method_34_code 42 = .ok (.iconst 0, 1) := by decide +kernel
theorem d_C_gatherSlots_43 : decode prog_1_method_34_code 43 = .ok (.istore_n 1, 1) := by decide +kernel
theorem d_C_gatherSlots_44 : decode prog_1_method_34_code 44 = .ok (.iload_n 1, 1) := by decide +kernel
theorem d_C_gatherSlots_45 : decode prog_1_method_34_code 45 = .ok (.aload_n 0, 1) := by decide +kernel
theorem d_C_gatherSlots_46 : decode prog_1_method_34_code 46 = .ok (.getfield 31, 3) := by decide +kernel
theorem d_C_gatherSlots_49 : decode prog_1_method_34_code 49 = .ok (.getfield 184, 3) := by decide +kernel
theorem d_C_gatherSlots_52 : decode prog_1_method_34_code 52 = .ok (.if_icmp .ge 24, 3) := by decide +kernel
theorem d_C_gatherSlots_55 : decode prog_1_method_34_code 55 = .ok (.aload_n 0, 1) := by decide +kernel
theorem d_C_gatherSlots_56 : decode prog_1_method_34_code 56 = .ok (.getfield 42, 3) := by decide +kernel
theorem d_C_gatherSlots_59 : decode prog_1_method_34_code 59 = .ok (.aload_n 0, 1) := by decide +kernel
theorem d_C_gatherSlots_60 : decode prog_1_method_34_code 60 = .ok (.getfield 31, 3) := by decide +kernel
theorem d_C_gatherSlots_63 : decode prog_1_method_34_code 63 = .ok (.iload_n 1, 1) := by decide +kernel
theorem d_C_gatherSlots_64 : decode prog_1_method_34_code 64 = .ok (.invokevirtual 256, 3) := by decide +kernel
theorem d_C_gatherSlots_67 : decode prog_1_method_34_code 67 = .ok (.invokevirtual 218, 3) := by decide +kernel
theorem d_C_gatherSlots_70 : decode prog_1_method_34_code 70 = .ok (.iinc 1 1, 3) := by decide +kernel
theorem d_C_gatherSlots_73 : decode prog_1_method_34_code 73 = .ok (.goto (-29), 3) := by decide +kernel
theorem d_C_gatherSlots_76 : decode prog_1_method_34_code 76 = .ok (.return_, 1) := by decide +kernel
theorem d_W_get_0 : decode prog_5_method_3_code 0 = .ok (.iload_n 1, 1) := by decide +kernel
theorem d_W_get_1 : decode prog_5_method_3_code 1 = .ok (.ifCond .lt 29, 3) := by decide +kernel
theorem d_W_get_4 : decode prog_5_method_3_code 4 = .ok (.iload_n 1, 1) := by decide +kernel
theorem d_W_get_5 : decode prog_5_method_3_code 5 = .ok (.aload_n 0, 1) := by decide +kernel
theorem d_W_get_6 : decode prog_5_method_3_code 6 = .ok (.getfield 17, 3) := by decide +kernel
theorem d_W_get_9 : decode prog_5_method_3_code 9 = .ok (.if_icmp .ge 21, 3) := by decide +kernel
theorem d_W_get_12 : decode prog_5_method_3_code 12 = .ok (.aload_n 0, 1) := by decide +kernel
theorem d_W_get_13 : decode prog_5_method_3_code 13 = .ok (.getfield 11, 3) := by decide +kernel
theorem d_W_get_16 : decode prog_5_method_3_code 16 = .ok (.aload_n 0, 1) := by decide +kernel
theorem d_W_get_17 : decode prog_5_method_3_code 17 = .ok (.getfield 21, 3) := by decide +kernel
theorem d_W_get_20 : decode prog_5_method_3_code 20 = .ok (.iload_n 1, 1) := by decide +kernel
theorem d_W_get_21 : decode prog_5_method_3_code 21 = .ok (.iadd, 1) := by decide +kernel
theorem d_W_get_22 : decode prog_5_method_3_code 22 = .ok (.sipush 262, 3) := by decide +kernel
theorem d_W_get_25 : decode prog_5_method_3_code 25 = .ok (.irem, 1) := by decide +kernel
theorem d_W_get_26 : decode prog_5_method_3_code 26 = .ok (.aaload, 1) := by decide +kernel
theorem d_W_get_27 : decode prog_5_method_3_code 27 = .ok (.goto 4, 3) := by decide +kernel
theorem d_W_get_30 : decode prog_5_method_3_code 30 = .ok (.aconst_null, 1) := by decide +kernel
theorem d_W_get_31 : decode prog_5_method_3_code 31 = .ok (.areturn, 1) := by decide +kernel
theorem d_I_growOld_0 : decode prog_2_method_5_code 0 = .ok (.aload_n 0, 1) := by decide +kernel
theorem d_I_growOld_1 : decode prog_2_method_5_code 1 = .ok (.iconst 1, 1) := by decide +kernel
theorem d_I_growOld_2 : decode prog_2_method_5_code 2 = .ok (.putfield 26, 3) := by decide +kernel
theorem d_I_growOld_5 : decode prog_2_method_5_code 5 = .ok (.aload_n 0, 1) := by decide +kernel
theorem d_I_growOld_6 : decode prog_2_method_5_code 6 = .ok (.iload_n 1, 1) := by decide +kernel
theorem d_I_growOld_7 : decode prog_2_method_5_code 7 = .ok (.putfield 33, 3) := by decide +kernel
theorem d_I_growOld_10 : decode prog_2_method_5_code 10 = .ok (.return_, 1) := by decide +kernel
theorem d_P_moveOut_0 : decode prog_4_method_6_code 0 = .ok (.iload_n 1, 1) := by decide +kernel
theorem d_P_moveOut_1 : decode prog_4_method_6_code 1 = .ok (.istore_n 3, 1) := by decide +kernel
theorem d_P_moveOut_2 : decode prog_4_method_6_code 2 = .ok (.iload_n 3, 1) := by decide +kernel
theorem d_P_moveOut_3 : decode prog_4_method_6_code 3 = .ok (.iload_n 1, 1) := by decide +kernel
theorem d_P_moveOut_4 : decode prog_4_method_6_code 4 = .ok (.iload_n 2, 1) := by decide +kernel
theorem d_P_moveOut_5 : decode prog_4_method_6_code 5 = .ok (.iadd, 1) := by decide +kernel
theorem d_P_moveOut_6 : decode prog_4_method_6_code 6 = .ok (.if_icmp .ge 30, 3) := by decide +kernel
theorem d_P_moveOut_9 : decode prog_4_method_6_code 9 = .ok (.aload_n 0, 1) := by decide +kernel
theorem d_P_moveOut_10 : decode prog_4_method_6_code 10 = .ok (.getfield 9, 3) := by decide +kernel
theorem d_P_moveOut_13 : decode prog_4_method_6_code 13 = .ok (.iload_n 3, 1) := by decide +kernel
theorem d_P_moveOut_14 : decode prog_4_method_6_code 14 = .ok (.iconst 4, 1) := by decide +kernel
theorem d_P_moveOut_15 : decode prog_4_method_6_code 15 = .ok (.idiv, 1) := by decide +kernel
