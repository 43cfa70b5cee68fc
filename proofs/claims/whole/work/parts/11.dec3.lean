/-! Instructions (written by a program) -/
theorem d_M_init_143 : decode prog_8_method_1_code 143 = .ok (.sipush 160, 3) := by decide +kernel
theorem d_M_init_146 : decode prog_8_method_1_code 146 = .ok (.newarray .int, 2) := by decide +kernel
theorem d_M_init_148 : decode prog_8_method_1_code 148 = .ok (.putfield 63, 3) := by decide +kernel
theorem d_M_init_151 : decode prog_8_method_1_code 151 = .ok (.aload_n 0, 1) := by decide +kernel
theorem d_M_init_152 : decode prog_8_method_1_code 152 = .ok (.sipush 400, 3) := by decide +kernel
theorem d_M_init_155 : decode prog_8_method_1_code 155 = .ok (.newarray .int, 2) := by decide +kernel
theorem d_M_init_157 : decode prog_8_method_1_code 157 = .ok (.putfield 66, 3) := by decide +kernel
theorem d_M_init_160 : decode prog_8_method_1_code 160 = .ok (.iconst 0, 1) := by decide +kernel
theorem d_M_init_161 : decode prog_8_method_1_code 161 = .ok (.istore_n 1, 1) := by decide +kernel
theorem d_M_init_162 : decode prog_8_method_1_code 162 = .ok (.iload_n 1, 1) := by decide +kernel
theorem d_M_init_163 : decode prog_8_method_1_code 163 = .ok (.sipush 128, 3) := by decide +kernel
theorem d_M_init_166 : decode prog_8_method_1_code 166 = .ok (.if_icmp .ge 16, 3) := by decide +kernel
theorem d_M_init_169 : decode prog_8_method_1_code 169 = .ok (.aload_n 0, 1) := by decide +kernel
theorem d_M_init_170 : decode prog_8_method_1_code 170 = .ok (.getfield 7, 3) := by decide +kernel
theorem d_M_init_173 : decode prog_8_method_1_code 173 = .ok (.iload_n 1, 1) := by decide +kernel
theorem d_M_init_174 : decode prog_8_method_1_code 174 = .ok (.iconst (-1), 1) := by decide +kernel
theorem d_M_init_175 : decode prog_8_method_1_code 175 = .ok (.iastore, 1) := by decide +kernel
theorem d_M_init_176 : decode prog_8_method_1_code 176 = .ok (.iinc 1 1, 3) := by decide +kernel
theorem d_M_init_179 : decode prog_8_method_1_code 179 = .ok (.goto (-17), 3) := by decide +kernel
theorem d_M_init_182 : decode prog_8_method_1_code 182 = .ok (.iconst 0, 1) := by decide +kernel
theorem d_M_init_183 : decode prog_8_method_1_code 183 = .ok (.istore_n 1, 1) := by decide +kernel
theorem d_M_init_184 : decode prog_8_method_1_code 184 = .ok (.iload_n 1, 1) := by decide +kernel
theorem d_M_init_185 : decode prog_8_method_1_code 185 = .ok (.bipush 6, 2) := by decide +kernel
theorem d_M_init_187 : decode prog_8_method_1_code 187 = .ok (.if_icmp .ge 23, 3) := by decide +kernel
theorem d_M_init_190 : decode prog_8_method_1_code 190 = .ok (.aload_n 0, 1) := by decide +kernel
theorem d_M_init_191 : decode prog_8_method_1_code 191 = .ok (.getfield 38, 3) := by decide +kernel
theorem d_M_init_194 : decode prog_8_method_1_code 194 = .ok (.iload_n 1, 1) := by decide +kernel
theorem d_M_init_195 : decode prog_8_method_1_code 195 = .ok (.iconst (-1), 1) := by decide +kernel
theorem d_M_init_196 : decode prog_8_method_1_code 196 = .ok (.iastore, 1) := by decide +kernel
theorem d_M_init_197 : decode prog_8_method_1_code 197 = .ok (.aload_n 0, 1) := by decide +kernel
theorem d_M_init_198 : decode prog_8_method_1_code 198 = .ok (.getfield 41, 3) := by decide +kernel
theorem d_M_init_201 : decode prog_8_method_1_code 201 = .ok (.iload_n 1, 1) := by decide +kernel
theorem d_M_init_202 : decode prog_8_method_1_code 202 = .ok (.iconst (-1), 1) := by decide +kernel
theorem d_M_init_203 : decode prog_8_method_1_code 203 = .ok (.iastore, 1) := by decide +kernel
theorem d_M_init_204 : decode prog_8_method_1_code 204 = .ok (.iinc 1 1, 3) := by decide +kernel
theorem d_M_init_207 : decode prog_8_method_1_code 207 = .ok (.goto (-23), 3) := by decide +kernel
theorem d_M_init_210 : decode prog_8_method_1_code 210 = .ok (.return_, 1) := by decide +kernel
theorem d_M_thrown_0 : decode prog_8_method_2_code 0 = .ok (.aload_n 0, 1) := by decide +kernel
theorem d_M_thrown_1 : decode prog_8_method_2_code 1 = .ok (.getfield 69, 3) := by decide +kernel
theorem d_M_thrown_4 : decode prog_8_method_2_code 4 = .ok (.ireturn, 1) := by decide +kernel
theorem d_M_isUsed_0 : decode prog_8_method_3_code 0 = .ok (.aload_n 0, 1) := by decide +kernel
theorem d_M_isUsed_1 : decode prog_8_method_3_code 1 = .ok (.getfield 51, 3) := by decide +kernel
theorem d_M_isUsed_4 : decode prog_8_method_3_code 4 = .ok (.iload_n 1, 1) := by decide +kernel
theorem d_M_isUsed_5 : decode prog_8_method_3_code 5 = .ok (.baload, 1) := by decide +kernel
theorem d_M_isUsed_6 : decode prog_8_method_3_code 6 = .ok (.istore_n 2, 1) := by decide +kernel
theorem d_M_isUsed_7 : decode prog_8_method_3_code 7 = .ok (.iconst 4, 1) := by decide +kernel
theorem d_M_isUsed_8 : decode prog_8_method_3_code 8 = .ok (.iload_n 1, 1) := by decide +kernel
theorem d_M_isUsed_9 : decode prog_8_method_3_code 9 = .ok (.imul, 1) := by decide +kernel
theorem d_M_isUsed_10 : decode prog_8_method_3_code 10 = .ok (.istore_n 3, 1) := by decide +kernel
theorem d_M_isUsed_11 : decode prog_8_method_3_code 11 = .ok (.iload_n 3, 1) := by decide +kernel
theorem d_M_isUsed_12 : decode prog_8_method_3_code 12 = .ok (.iconst 4, 1) := by decide +kernel
theorem d_M_isUsed_13 : decode prog_8_method_3_code 13 = .ok (.iload_n 1, 1) := by decide +kernel
theorem d_M_isUsed_14 : decode prog_8_method_3_code 14 = .ok (.imul, 1) := by decide +kernel
theorem d_M_isUsed_15 : decode prog_8_method_3_code 15 = .ok (.iconst 4, 1) := by decide +kernel
theorem d_M_isUsed_16 : decode prog_8_method_3_code 16 = .ok (.iadd, 1) := by decide +kernel
theorem d_M_isUsed_17 : decode prog_8_method_3_code 17 = .ok (.if_icmp .ge 28, 3) := by decide +kernel
theorem d_M_isUsed_20 : decode prog_8_method_3_code 20 = .ok (.iload_n 2, 1) := by decide +kernel
theorem d_M_isUsed_21 : decode prog_8_method_3_code 21 = .ok (.ifCond .ne 12, 3) := by decide +kernel
theorem d_M_isUsed_24 : decode prog_8_method_3_code 24 = .ok (.aload_n 0, 1) := by decide +kernel
theorem d_M_isUsed_25 : decode prog_8_method_3_code 25 = .ok (.getfield 7, 3) := by decide +kernel
theorem d_M_isUsed_28 : decode prog_8_method_3_code 28 = .ok (.iload_n 3, 1) := by decide +kernel
theorem d_M_isUsed_29 : decode prog_8_method_3_code 29 = .ok (.iaload, 1) := by decide +kernel
theorem d_M_isUsed_30 : decode prog_8_method_3_code 30 = .ok (.ifCond .lt 7, 3) := by decide +kernel
theorem d_M_isUsed_33 : decode prog_8_method_3_code 33 = .ok (.iconst 1, 1) := by decide +kernel
theorem d_M_isUsed_34 : decode prog_8_method_3_code 34 = .ok (.goto 4, 3) := by decide +kernel
theorem d_M_isUsed_37 : decode prog_8_method_3_code 37 = .ok (.iconst 0, 1) := by decide +kernel
theorem d_M_isUsed_38 : decode prog_8_method_3_code 38 = .ok (.istore_n 2, 1) := by decide +kernel
theorem d_M_isUsed_39 : decode prog_8_method_3_code 39 = .ok (.iinc 3 1, 3) := by decide +kernel
theorem d_M_isUsed_42 : decode prog_8_method_3_code 42 = .ok (.goto (-31), 3) := by decide +kernel
theorem d_M_isUsed_45 : decode prog_8_method_3_code 45 = .ok (.iload_n 2, 1) := by decide +kernel
theorem d_M_isUsed_46 : decode prog_8_method_3_code 46 = .ok (.ireturn, 1) := by decide +kernel
theorem d_M_isTaken_0 : decode prog_8_method_4_code 0 = .ok (.aload_n 0, 1) := by decide +kernel
theorem d_M_isTaken_1 : decode prog_8_method_4_code 1 = .ok (.getfield 44, 3) := by decide +kernel
theorem d_M_isTaken_4 : decode prog_8_method_4_code 4 = .ok (.ifCond .lt 19, 3) := by decide +kernel
theorem d_M_isTaken_7 : decode prog_8_method_4_code 7 = .ok (.iload_n 1, 1) := by decide +kernel
theorem d_M_isTaken_8 : decode prog_8_method_4_code 8 = .ok (.aload_n 0, 1) := by decide +kernel
theorem d_M_isTaken_9 : decode prog_8_method_4_code 9 = .ok (.getfield 44, 3) := by decide +kernel
theorem d_M_isTaken_12 : decode prog_8_method_4_code 12 = .ok (.if_icmp .lt 11, 3) := by decide +kernel
theorem d_M_isTaken_15 : decode prog_8_method_4_code 15 = .ok (.iload_n 1, 1) := by decide +kernel
theorem d_M_isTaken_16 : decode prog_8_method_4_code 16 = .ok (.aload_n 0, 1) := by decide +kernel
theorem d_M_isTaken_17 : decode prog_8_method_4_code 17 = .ok (.getfield 72, 3) := by decide +kernel
theorem d_M_isTaken_20 : decode prog_8_method_4_code 20 = .ok (.if_icmp .lt 21, 3) := by decide +kernel
theorem d_M_isTaken_23 : decode prog_8_method_4_code 23 = .ok (.aload_n 0, 1) := by decide +kernel
theorem d_M_isTaken_24 : decode prog_8_method_4_code 24 = .ok (.getfield 48, 3) := by decide +kernel
theorem d_M_isTaken_27 : decode prog_8_method_4_code 27 = .ok (.ifCond .lt 18, 3) := by decide +kernel
theorem d_M_isTaken_30 : decode prog_8_method_4_code 30 = .ok (.iload_n 1, 1) := by decide +kernel
theorem d_M_isTaken_31 : decode prog_8_method_4_code 31 = .ok (.bipush 8, 2) := by decide +kernel
theorem d_M_isTaken_33 : decode prog_8_method_4_code 33 = .ok (.idiv, 1) := by decide +kernel
theorem d_M_isTaken_34 : decode prog_8_method_4_code 34 = .ok (.aload_n 0, 1) := by decide +kernel
theorem d_M_isTaken_35 : decode prog_8_method_4_code 35 = .ok (.getfield 48, 3) := by decide +kernel
theorem d_M_isTaken_38 : decode prog_8_method_4_code 38 = .ok (.if_icmp .ne 7, 3) := by decide +kernel
theorem d_M_isTaken_41 : decode prog_8_method_4_code 41 = .ok (.iconst 1, 1) := by decide +kernel
theorem d_M_isTaken_42 : decode prog_8_method_4_code 42 = .ok (.goto 4, 3) := by decide +kernel
theorem d_M_isTaken_45 : decode prog_8_method_4_code 45 = .ok (.iconst 0, 1) := by decide +kernel
theorem d_M_isTaken_46 : decode prog_8_method_4_code 46 = .ok (.ireturn, 1) := by decide +kernel
theorem d_M_isFree_0 : decode prog_8_method_5_code 0 = .ok (.aload_n 0, 1) := by decide +kernel
theorem d_M_isFree_1 : decode prog_8_method_5_code 1 = .ok (.iload_n 1, 1) := by decide +kernel
theorem d_M_isFree_2 : decode prog_8_method_5_code 2 = .ok (.invokevirtual 75, 3) := by decide +kernel
theorem d_M_isFree_5 : decode prog_8_method_5_code 5 = .ok (.ifCond .ne 26, 3) := by decide +kernel
theorem d_M_isFree_8 : decode prog_8_method_5_code 8 = .ok (.aload_n 0, 1) := by decide +kernel
theorem d_M_isFree_9 : decode prog_8_method_5_code 9 = .ok (.iload_n 1, 1) := by decide +kernel
theorem d_M_isFree_10 : decode prog_8_method_5_code 10 = .ok (.invokevirtual 79, 3) := by decide +kernel
theorem d_M_isFree_13 : decode prog_8_method_5_code 13 = .ok (.ifCond .ne 18, 3) := by decide +kernel
theorem d_M_isFree_16 : decode prog_8_method_5_code 16 = .ok (.iload_n 1, 1) := by decide +kernel
theorem d_M_isFree_17 : decode prog_8_method_5_code 17 = .ok (.bipush 8, 2) := by decide +kernel
theorem d_M_isFree_19 : decode prog_8_method_5_code 19 = .ok (.idiv, 1) := by decide +kernel
theorem d_M_isFree_20 : decode prog_8_method_5_code 20 = .ok (.aload_n 0, 1) := by decide +kernel
theorem d_M_isFree_21 : decode prog_8_method_5_code 21 = .ok (.getfield 54, 3) := by decide +kernel
theorem d_M_isFree_24 : decode prog_8_method_5_code 24 = .ok (.if_icmp .eq 7, 3) := by decide +kernel
theorem d_M_isFree_27 : decode prog_8_method_5_code 27 = .ok (.iconst 1, 1) := by decide +kernel
theorem d_M_isFree_28 : decode prog_8_method_5_code 28 = .ok (.goto 4, 3) := by decide +kernel
theorem d_M_isFree_31 : decode prog_8_method_5_code 31 = .ok (.iconst 0, 1) := by decide +kernel
theorem d_M_isFree_32 : decode prog_8_method_5_code 32 = .ok (.ireturn, 1) := by decide +kernel
theorem d_M_isFreeBlock_0 : decode prog_8_method_6_code 0 = .ok (.iconst 1, 1) := by decide +kernel
theorem d_M_isFreeBlock_1 : decode prog_8_method_6_code 1 = .ok (.istore_n 2, 1) := by decide +kernel
theorem d_M_isFreeBlock_2 : decode prog_8_method_6_code 2 = .ok (.bipush 8, 2) := by decide +kernel
theorem d_M_isFreeBlock_4 : decode prog_8_method_6_code 4 = .ok (.iload_n 1, 1) := by decide +kernel
theorem d_M_isFreeBlock_5 : decode prog_8_method_6_code 5 = .ok (.imul, 1) := by decide +kernel
theorem d_M_isFreeBlock_6 : decode prog_8_method_6_code 6 = .ok (.istore_n 3, 1) := by decide +kernel
theorem d_M_isFreeBlock_7 : decode prog_8_method_6_code 7 = .ok (.iload_n 3, 1) := by decide +kernel
theorem d_M_isFreeBlock_8 : decode prog_8_method_6_code 8 = .ok (.bipush 8, 2) := by decide +kernel
theorem d_M_isFreeBlock_10 : decode prog_8_method_6_code 10 = .ok (.iload_n 1, 1) := by decide +kernel
theorem d_M_isFreeBlock_11 : decode prog_8_method_6_code 11 = .ok (.imul, 1) := by decide +kernel
theorem d_M_isFreeBlock_12 : decode prog_8_method_6_code 12 = .ok (.bipush 8, 2) := by decide +kernel
theorem d_M_isFreeBlock_14 : decode prog_8_method_6_code 14 = .ok (.iadd, 1) := by decide +kernel
theorem d_M_isFreeBlock_15 : decode prog_8_method_6_code 15 = .ok (.if_icmp .ge 27, 3) := by decide +kernel
theorem d_M_isFreeBlock_18 : decode prog_8_method_6_code 18 = .ok (.iload_n 2, 1) := by decide +kernel
theorem d_M_isFreeBlock_19 : decode prog_8_method_6_code 19 = .ok (.ifCond .eq 15, 3) := by decide +kernel
theorem d_M_isFreeBlock_22 : decode prog_8_method_6_code 22 = .ok (.aload_n 0, 1) := by decide +kernel
theorem d_M_isFreeBlock_23 : decode prog_8_method_6_code 23 = .ok (.iload_n 3, 1) := by decide +kernel
theorem d_M_isFreeBlock_24 : decode prog_8_method_6_code 24 = .ok (.invokevirtual 82, 3) := by decide +kernel
theorem d_M_isFreeBlock_27 : decode prog_8_method_6_code 27 = .ok (.ifCond .eq 7, 3) := by decide +kernel
theorem d_M_isFreeBlock_30 : decode prog_8_method_6_code 30 = .ok (.iconst 1, 1) := by decide +kernel
theorem d_M_isFreeBlock_31 : decode prog_8_method_6_code 31 = .ok (.goto 4, 3) := by decide +kernel
theorem d_M_isFreeBlock_34 : decode prog_8_method_6_code 34 = .ok (.iconst 0, 1) := by decide +kernel
theorem d_M_isFreeBlock_35 : decode prog_8_method_6_code 35 = .ok (.istore_n 2, 1) := by decide +kernel
theorem d_M_isFreeBlock_36 : decode prog_8_method_6_code 36 = .ok (.iinc 3 1, 3) := by decide +kernel
theorem d_M_isFreeBlock_39 : decode prog_8_method_6_code 39 = .ok (.goto (-32), 3) := by decide +kernel
theorem d_M_isFreeBlock_42 : decode prog_8_method_6_code 42 = .ok (.iload_n 2, 1) := by decide +kernel
theorem d_M_isFreeBlock_43 : decode prog_8_method_6_code 43 = .ok (.ireturn, 1) := by decide +kernel
theorem d_M_forget_0 : decode prog_8_method_7_code 0 = .ok (.aload_n 0, 1) := by decide +kernel
theorem d_M_forget_1 : decode prog_8_method_7_code 1 = .ok (.iconst (-1), 1) := by decide +kernel
theorem d_M_forget_2 : decode prog_8_method_7_code 2 = .ok (.putfield 44, 3) := by decide +kernel
theorem d_M_forget_5 : decode prog_8_method_7_code 5 = .ok (.aload_n 0, 1) := by decide +kernel
theorem d_M_forget_6 : decode prog_8_method_7_code 6 = .ok (.iconst (-1), 1) := by decide +kernel
theorem d_M_forget_7 : decode prog_8_method_7_code 7 = .ok (.putfield 48, 3) := by decide +kernel
theorem d_M_forget_10 : decode prog_8_method_7_code 10 = .ok (.return_, 1) := by decide +kernel
theorem d_M_placeInBlock_0 : decode prog_8_method_10_code 0 = .ok (.aload_n 0, 1) := by decide +kernel
theorem d_M_placeInBlock_1 : decode prog_8_method_10_code 1 = .ok (.getfield 48, 3) := by decide +kernel
theorem d_M_placeInBlock_4 : decode prog_8_method_10_code 4 = .ok (.ifCond .lt 39, 3) := by decide +kernel
theorem d_M_placeInBlock_7 : decode prog_8_method_10_code 7 = .ok (.aload_n 0, 1) := by decide +kernel
theorem d_M_placeInBlock_8 : decode prog_8_method_10_code 8 = .ok (.getfield 95, 3) := by decide +kernel
theorem d_M_placeInBlock_11 : decode prog_8_method_10_code 11 = .ok (.iload_n 1, 1) := by decide +kernel
theorem d_M_placeInBlock_12 : decode prog_8_method_10_code 12 = .ok (.iadd, 1) := by decide +kernel
theorem d_M_placeInBlock_13 : decode prog_8_method_10_code 13 = .ok (.bipush 32, 2) := by decide +kernel
theorem d_M_placeInBlock_15 : decode prog_8_method_10_code 15 = .ok (.aload_n 0, 1) := by decide +kernel
theorem d_M_placeInBlock_16 : decode prog_8_method_10_code 16 = .ok (.getfield 48, 3) := by decide +kernel
theorem d_M_placeInBlock_19 : decode prog_8_method_10_code 19 = .ok (.imul, 1) := by decide +kernel
theorem d_M_placeInBlock_20 : decode prog_8_method_10_code 20 = .ok (.bipush 32, 2) := by decide +kernel
theorem d_M_placeInBlock_22 : decode prog_8_method_10_code 22 = .ok (.iadd, 1) := by decide +kernel
theorem d_M_placeInBlock_23 : decode prog_8_method_10_code 23 = .ok (.if_icmp .gt 20, 3) := by decide +kernel
theorem d_M_placeInBlock_26 : decode prog_8_method_10_code 26 = .ok (.aload_n 0, 1) := by decide +kernel
theorem d_M_placeInBlock_27 : decode prog_8_method_10_code 27 = .ok (.aload_n 0, 1) := by decide +kernel
theorem d_M_placeInBlock_28 : decode prog_8_method_10_code 28 = .ok (.getfield 95, 3) := by decide +kernel
theorem d_M_placeInBlock_31 : decode prog_8_method_10_code 31 = .ok (.iload_n 1, 1) := by decide +kernel
theorem d_M_placeInBlock_32 : decode prog_8_method_10_code 32 = .ok (.iadd, 1) := by decide +kernel
theorem d_M_placeInBlock_33 : decode prog_8_method_10_code 33 = .ok (.putfield 95, 3) := by decide +kernel
theorem d_M_placeInBlock_36 : decode prog_8_method_10_code 36 = .ok (.aload_n 0, 1) := by decide +kernel
theorem d_M_placeInBlock_37 : decode prog_8_method_10_code 37 = .ok (.getfield 95, 3) := by decide +kernel
theorem d_M_placeInBlock_40 : decode prog_8_method_10_code 40 = .ok (.iload_n 1, 1) := by decide +kernel
theorem d_M_placeInBlock_41 : decode prog_8_method_10_code 41 = .ok (.isub, 1) := by decide +kernel
theorem d_M_placeInBlock_42 : decode prog_8_method_10_code 42 = .ok (.ireturn, 1) := by decide +kernel
theorem d_M_placeInBlock_43 : decode prog_8_method_10_code 43 = .ok (.iconst 0, 1) := by decide +kernel
theorem d_M_placeInBlock_44 : decode prog_8_method_10_code 44 = .ok (.istore_n 2, 1) := by decide +kernel
theorem d_M_placeInBlock_45 : decode prog_8_method_10_code 45 = .ok (.iload_n 2, 1) := by decide +kernel
theorem d_M_placeInBlock_46 : decode prog_8_method_10_code 46 = .ok (.iconst 4, 1) := by decide +kernel
theorem d_M_placeInBlock_47 : decode prog_8_method_10_code 47 = .ok (.if_icmp .ge 17, 3) := by decide +kernel
theorem d_M_placeInBlock_50 : decode prog_8_method_10_code 50 = .ok (.aload_n 0, 1) := by decide +kernel
theorem d_M_placeInBlock_51 : decode prog_8_method_10_code 51 = .ok (.iload_n 2, 1) := by decide +kernel
theorem d_M_placeInBlock_52 : decode prog_8_method_10_code 52 = .ok (.invokevirtual 98, 3) := by decide +kernel
theorem d_M_placeInBlock_55 : decode prog_8_method_10_code 55 = .ok (.ifCond .ne 9, 3) := by decide +kernel
theorem d_M_placeInBlock_58 : decode prog_8_method_10_code 58 = .ok (.iinc 2 1, 3) := by decide +kernel
theorem d_M_placeInBlock_61 : decode prog_8_method_10_code 61 = .ok (.goto (-16), 3) := by decide +kernel
theorem d_M_placeInBlock_64 : decode prog_8_method_10_code 64 = .ok (.iload_n 2, 1) := by decide +kernel
theorem d_M_placeInBlock_65 : decode prog_8_method_10_code 65 = .ok (.iconst 4, 1) := by decide +kernel
theorem d_M_placeInBlock_66 : decode prog_8_method_10_code 66 = .ok (.if_icmp .ne 5, 3) := by decide +kernel
theorem d_M_placeInBlock_69 : decode prog_8_method_10_code 69 = .ok (.iconst (-1), 1) := by decide +kernel
theorem d_M_placeInBlock_70 : decode prog_8_method_10_code 70 = .ok (.ireturn, 1) := by decide +kernel
theorem d_M_placeInBlock_71 : decode prog_8_method_10_code 71 = .ok (.aload_n 0, 1) := by decide +kernel
theorem d_M_placeInBlock_72 : decode prog_8_method_10_code 72 = .ok (.iload_n 2, 1) := by decide +kernel
theorem d_M_placeInBlock_73 : decode prog_8_method_10_code 73 = .ok (.putfield 48, 3) := by decide +kernel
theorem d_M_placeInBlock_76 : decode prog_8_method_10_code 76 = .ok (.aload_n 0, 1) := by decide +kernel
theorem d_M_placeInBlock_77 : decode prog_8_method_10_code 77 = .ok (.bipush 32, 2) := by decide +kernel
theorem d_M_placeInBlock_79 : decode prog_8_method_10_code 79 = .ok (.iload_n 2, 1) := by decide +kernel
theorem d_M_placeInBlock_80 : decode prog_8_method_10_code 80 = .ok (.imul, 1) := by decide +kernel
theorem d_M_placeInBlock_81 : decode prog_8_method_10_code 81 = .ok (.iload_n 1, 1) := by decide +kernel
theorem d_M_placeInBlock_82 : decode prog_8_method_10_code 82 = .ok (.iadd, 1) := by decide +kernel
theorem d_M_placeInBlock_83 : decode prog_8_method_10_code 83 = .ok (.putfield 95, 3) := by decide +kernel
theorem d_M_placeInBlock_86 : decode prog_8_method_10_code 86 = .ok (.bipush 32, 2) := by decide +kernel
theorem d_M_placeInBlock_88 : decode prog_8_method_10_code 88 = .ok (.iload_n 2, 1) := by decide +kernel
theorem d_M_placeInBlock_89 : decode prog_8_method_10_code 89 = .ok (.imul, 1) := by decide +kernel
theorem d_M_placeInBlock_90 : decode prog_8_method_10_code 90 = .ok (.ireturn, 1) := by decide +kernel
theorem d_M_placeInLines_0 : decode prog_8_method_9_code 0 = .ok (.aload_n 0, 1) := by decide +kernel
theorem d_M_placeInLines_1 : decode prog_8_method_9_code 1 = .ok (.getfield 44, 3) := by decide +kernel
theorem d_M_placeInLines_4 : decode prog_8_method_9_code 4 = .ok (.ifCond .ge 7, 3) := by decide +kernel
theorem d_M_placeInLines_7 : decode prog_8_method_9_code 7 = .ok (.iconst 0, 1) := by decide +kernel
theorem d_M_placeInLines_8 : decode prog_8_method_9_code 8 = .ok (.goto 7, 3) := by decide +kernel
theorem d_M_placeInLines_11 : decode prog_8_method_9_code 11 = .ok (.aload_n 0, 1) := by decide +kernel
theorem d_M_placeInLines_12 : decode prog_8_method_9_code 12 = .ok (.getfield 72, 3) := by decide +kernel
theorem d_M_placeInLines_15 : decode prog_8_method_9_code 15 = .ok (.istore_n 2, 1) := by decide +kernel
theorem d_M_placeInLines_16 : decode prog_8_method_9_code 16 = .ok (.iconst 0, 1) := by decide +kernel
theorem d_M_placeInLines_17 : decode prog_8_method_9_code 17 = .ok (.istore_n 3, 1) := by decide +kernel
theorem d_M_placeInLines_18 : decode prog_8_method_9_code 18 = .ok (.iload_n 3, 1) := by decide +kernel
theorem d_M_placeInLines_19 : decode prog_8_method_9_code 19 = .ok (.bipush 32, 2) := by decide +kernel
theorem d_M_placeInLines_21 : decode prog_8_method_9_code 21 = .ok (.if_icmp .ge 22, 3) := by decide +kernel
theorem d_M_placeInLines_24 : decode prog_8_method_9_code 24 = .ok (.aload_n 0, 1) := by decide +kernel
theorem d_M_placeInLines_25 : decode prog_8_method_9_code 25 = .ok (.iload_n 2, 1) := by decide +kernel
theorem d_M_placeInLines_26 : decode prog_8_method_9_code 26 = .ok (.iload_n 3, 1) := by decide +kernel
theorem d_M_placeInLines_27 : decode prog_8_method_9_code 27 = .ok (.iadd, 1) := by decide +kernel
theorem d_M_placeInLines_28 : decode prog_8_method_9_code 28 = .ok (.bipush 32, 2) := by decide +kernel
theorem d_M_placeInLines_30 : decode prog_8_method_9_code 30 = .ok (.irem, 1) := by decide +kernel
theorem d_M_placeInLines_31 : decode prog_8_method_9_code 31 = .ok (.invokevirtual 82, 3) := by decide +kernel
theorem d_M_placeInLines_34 : decode prog_8_method_9_code 34 = .ok (.ifCond .ne 9, 3) := by decide +kernel
theorem d_M_placeInLines_37 : decode prog_8_method_9_code 37 = .ok (.iinc 3 1, 3) := by decide +kernel
theorem d_M_placeInLines_40 : decode prog_8_method_9_code 40 = .ok (.goto (-22), 3) := by decide +kernel
theorem d_M_placeInLines_43 : decode prog_8_method_9_code 43 = .ok (.iload_n 3, 1) := by decide +kernel
theorem d_M_placeInLines_44 : decode prog_8_method_9_code 44 = .ok (.bipush 32, 2) := by decide +kernel
theorem d_M_placeInLines_46 : decode prog_8_method_9_code 46 = .ok (.if_icmp .ne 5, 3) := by decide +kernel
theorem d_M_placeInLines_49 : decode prog_8_method_9_code 49 = .ok (.iconst (-1), 1) := by decide +kernel
theorem d_M_placeInLines_50 : decode prog_8_method_9_code 50 = .ok (.ireturn, 1) := by decide +kernel
theorem d_M_placeInLines_51 : decode prog_8_method_9_code 51 = .ok (.iload_n 2, 1) := by decide +kernel
theorem d_M_placeInLines_52 : decode prog_8_method_9_code 52 = .ok (.iload_n 3, 1) := by decide +kernel
theorem d_M_placeInLines_53 : decode prog_8_method_9_code 53 = .ok (.iadd, 1) := by decide +kernel
theorem d_M_placeInLines_54 : decode prog_8_method_9_code 54 = .ok (.bipush 32, 2) := by decide +kernel
theorem d_M_placeInLines_56 : decode prog_8_method_9_code 56 = .ok (.irem, 1) := by decide +kernel
theorem d_M_placeInLines_57 : decode prog_8_method_9_code 57 = .ok (.istore 4, 2) := by decide +kernel
theorem d_M_placeInLines_59 : decode prog_8_method_9_code 59 = .ok (.iload 4, 2) := by decide +kernel
theorem d_M_placeInLines_61 : decode prog_8_method_9_code 61 = .ok (.iconst 1, 1) := by decide +kernel
theorem d_M_placeInLines_62 : decode prog_8_method_9_code 62 = .ok (.iadd, 1) := by decide +kernel
theorem d_M_placeInLines_63 : decode prog_8_method_9_code 63 = .ok (.istore 5, 2) := by decide +kernel
theorem d_M_placeInLines_65 : decode prog_8_method_9_code 65 = .ok (.iload 5, 2) := by decide +kernel
theorem d_M_placeInLines_67 : decode prog_8_method_9_code 67 = .ok (.bipush 8, 2) := by decide +kernel
theorem d_M_placeInLines_69 : decode prog_8_method_9_code 69 = .ok (.idiv, 1) := by decide +kernel
theorem d_M_placeInLines_70 : decode prog_8_method_9_code 70 = .ok (.iload 4, 2) := by decide +kernel
theorem d_M_placeInLines_72 : decode prog_8_method_9_code 72 = .ok (.bipush 8, 2) := by decide +kernel
theorem d_M_placeInLines_74 : decode prog_8_method_9_code 74 = .ok (.idiv, 1) := by decide +kernel
theorem d_M_placeInLines_75 : decode prog_8_method_9_code 75 = .ok (.if_icmp .ne 18, 3) := by decide +kernel
theorem d_M_placeInLines_78 : decode prog_8_method_9_code 78 = .ok (.aload_n 0, 1) := by decide +kernel
theorem d_M_placeInLines_79 : decode prog_8_method_9_code 79 = .ok (.iload 5, 2) := by decide +kernel
theorem d_M_placeInLines_81 : decode prog_8_method_9_code 81 = .ok (.invokevirtual 82, 3) := by decide +kernel
theorem d_M_placeInLines_84 : decode prog_8_method_9_code 84 = .ok (.ifCond .eq 9, 3) := by decide +kernel
theorem d_M_placeInLines_87 : decode prog_8_method_9_code 87 = .ok (.iinc 5 1, 3) := by decide +kernel
theorem d_M_placeInLines_90 : decode prog_8_method_9_code 90 = .ok (.goto (-25), 3) := by decide +kernel
theorem d_M_placeInLines_93 : decode prog_8_method_9_code 93 = .ok (.aload_n 0, 1) := by decide +kernel
theorem d_M_placeInLines_94 : decode prog_8_method_9_code 94 = .ok (.iload 4, 2) := by decide +kernel
theorem d_M_placeInLines_96 : decode prog_8_method_9_code 96 = .ok (.putfield 44, 3) := by decide +kernel
theorem d_M_placeInLines_99 : decode prog_8_method_9_code 99 = .ok (.aload_n 0, 1) := by decide +kernel
theorem d_M_placeInLines_100 : decode prog_8_method_9_code 100 = .ok (.iload 5, 2) := by decide +kernel
theorem d_M_placeInLines_102 : decode prog_8_method_9_code 102 = .ok (.putfield 72, 3) := by decide +kernel
theorem d_M_placeInLines_105 : decode prog_8_method_9_code 105 = .ok (.aload_n 0, 1) := by decide +kernel
theorem d_M_placeInLines_106 : decode prog_8_method_9_code 106 = .ok (.iconst 4, 1) := by decide +kernel
theorem d_M_placeInLines_107 : decode prog_8_method_9_code 107 = .ok (.iload 4, 2) := by decide +kernel
theorem d_M_placeInLines_109 : decode prog_8_method_9_code 109 = .ok (.imul, 1) := by decide +kernel
theorem d_M_placeInLines_110 : decode prog_8_method_9_code 110 = .ok (.iload_n 1, 1) := by decide +kernel
theorem d_M_placeInLines_111 : decode prog_8_method_9_code 111 = .ok (.iadd, 1) := by decide +kernel
theorem d_M_placeInLines_112 : decode prog_8_method_9_code 112 = .ok (.putfield 85, 3) := by decide +kernel
theorem d_M_placeInLines_115 : decode prog_8_method_9_code 115 = .ok (.iconst 4, 1) := by decide +kernel
theorem d_M_placeInLines_116 : decode prog_8_method_9_code 116 = .ok (.iload 4, 2) := by decide +kernel
theorem d_M_placeInLines_118 : decode prog_8_method_9_code 118 = .ok (.imul, 1) := by decide +kernel
theorem d_M_placeInLines_119 : decode prog_8_method_9_code 119 = .ok (.ireturn, 1) := by decide +kernel
theorem d_M_place_0 : decode prog_8_method_8_code 0 = .ok (.aload_n 0, 1) := by decide +kernel
theorem d_M_place_1 : decode prog_8_method_8_code 1 = .ok (.getfield 44, 3) := by decide +kernel
theorem d_M_place_4 : decode prog_8_method_8_code 4 = .ok (.ifCond .lt 35, 3) := by decide +kernel
theorem d_M_place_7 : decode prog_8_method_8_code 7 = .ok (.aload_n 0, 1) := by decide +kernel
theorem d_M_place_8 : decode prog_8_method_8_code 8 = .ok (.getfield 85, 3) := by decide +kernel
theorem d_M_place_11 : decode prog_8_method_8_code 11 = .ok (.iload_n 1, 1) := by decide +kernel
theorem d_M_place_12 : decode prog_8_method_8_code 12 = .ok (.iadd, 1) := by decide +kernel
theorem d_M_place_13 : decode prog_8_method_8_code 13 = .ok (.iconst 4, 1) := by decide +kernel
theorem d_M_place_14 : decode prog_8_method_8_code 14 = .ok (.aload_n 0, 1) := by decide +kernel
theorem d_M_place_15 : decode prog_8_method_8_code 15 = .ok (.getfield 72, 3) := by decide +kernel
theorem d_M_place_18 : decode prog_8_method_8_code 18 = .ok (.imul, 1) := by decide +kernel
theorem d_M_place_19 : decode prog_8_method_8_code 19 = .ok (.if_icmp .gt 20, 3) := by decide +kernel
theorem d_M_place_22 : decode prog_8_method_8_code 22 = .ok (.aload_n 0, 1) := by decide +kernel
theorem d_M_place_23 : decode prog_8_method_8_code 23 = .ok (.aload_n 0, 1) := by decide +kernel
theorem d_M_place_24 : decode prog_8_method_8_code 24 = .ok (.getfield 85, 3) := by decide +kernel
theorem d_M_place_27 : decode prog_8_method_8_code 27 = .ok (.iload_n 1, 1) := by decide +kernel
theorem d_M_place_28 : decode prog_8_method_8_code 28 = .ok (.iadd, 1) := by decide +kernel
theorem d_M_place_29 : decode prog_8_method_8_code 29 = .ok (.putfield 85, 3) := by decide +kernel
theorem d_M_place_32 : decode prog_8_method_8_code 32 = .ok (.aload_n 0, 1) := by decide +kernel
theorem d_M_place_33 : decode prog_8_method_8_code 33 = .ok (.getfield 85, 3) := by decide +kernel
theorem d_M_place_36 : decode prog_8_method_8_code 36 = .ok (.iload_n 1, 1) := by decide +kernel
theorem d_M_place_37 : decode prog_8_method_8_code 37 = .ok (.isub, 1) := by decide +kernel
theorem d_M_place_38 : decode prog_8_method_8_code 38 = .ok (.ireturn, 1) := by decide +kernel
theorem d_M_place_39 : decode prog_8_method_8_code 39 = .ok (.iload_n 1, 1) := by decide +kernel
theorem d_M_place_40 : decode prog_8_method_8_code 40 = .ok (.iconst 4, 1) := by decide +kernel
theorem d_M_place_41 : decode prog_8_method_8_code 41 = .ok (.if_icmp .gt 11, 3) := by decide +kernel
theorem d_M_place_44 : decode prog_8_method_8_code 44 = .ok (.aload_n 0, 1) := by decide +kernel
theorem d_M_place_45 : decode prog_8_method_8_code 45 = .ok (.iload_n 1, 1) := by decide +kernel
theorem d_M_place_46 : decode prog_8_method_8_code 46 = .ok (.invokevirtual 88, 3) := by decide +kernel
theorem d_M_place_49 : decode prog_8_method_8_code 49 = .ok (.goto 8, 3) := by decide +kernel
theorem d_M_place_52 : decode prog_8_method_8_code 52 = .ok (.aload_n 0, 1) := by decide +kernel
theorem d_M_place_53 : decode prog_8_method_8_code 53 = .ok (.iload_n 1, 1) := by decide +kernel
theorem d_M_place_54 : decode prog_8_method_8_code 54 = .ok (.invokevirtual 92, 3) := by decide +kernel
theorem d_M_place_57 : decode prog_8_method_8_code 57 = .ok (.ireturn, 1) := by decide +kernel
theorem d_M_objectAt_0 : decode prog_8_method_11_code 0 = .ok (.iload_n 1, 1) := by decide +kernel
theorem d_M_objectAt_1 : decode prog_8_method_11_code 1 = .ok (.ifCond .lt 18, 3) := by decide +kernel
theorem d_M_objectAt_4 : decode prog_8_method_11_code 4 = .ok (.iload_n 1, 1) := by decide +kernel
theorem d_M_objectAt_5 : decode prog_8_method_11_code 5 = .ok (.bipush 127, 2) := by decide +kernel
theorem d_M_objectAt_7 : decode prog_8_method_11_code 7 = .ok (.if_icmp .gt 12, 3) := by decide +kernel
theorem d_M_objectAt_10 : decode prog_8_method_11_code 10 = .ok (.aload_n 0, 1) := by decide +kernel
theorem d_M_objectAt_11 : decode prog_8_method_11_code 11 = .ok (.getfield 7, 3) := by decide +kernel
theorem d_M_objectAt_14 : decode prog_8_method_11_code 14 = .ok (.iload_n 1, 1) := by decide +kernel
theorem d_M_objectAt_15 : decode prog_8_method_11_code 15 = .ok (.iaload, 1) := by decide +kernel
theorem d_M_objectAt_16 : decode prog_8_method_11_code 16 = .ok (.ifCond .ge 5, 3) := by decide +kernel
theorem d_M_objectAt_19 : decode prog_8_method_11_code 19 = .ok (.iconst (-1), 1) := by decide +kernel
theorem d_M_objectAt_20 : decode prog_8_method_11_code 20 = .ok (.ireturn, 1) := by decide +kernel
theorem d_M_objectAt_21 : decode prog_8_method_11_code 21 = .ok (.aload_n 0, 1) := by decide +kernel
theorem d_M_objectAt_22 : decode prog_8_method_11_code 22 = .ok (.getfield 16, 3) := by decide +kernel
theorem d_M_objectAt_25 : decode prog_8_method_11_code 25 = .ok (.aload_n 0, 1) := by decide +kernel
theorem d_M_objectAt_26 : decode prog_8_method_11_code 26 = .ok (.getfield 7, 3) := by decide +kernel
theorem d_M_objectAt_29 : decode prog_8_method_11_code 29 = .ok (.iload_n 1, 1) := by decide +kernel
theorem d_M_objectAt_30 : decode prog_8_method_11_code 30 = .ok (.iaload, 1) := by decide +kernel
theorem d_M_objectAt_31 : decode prog_8_method_11_code 31 = .ok (.iaload, 1) := by decide +kernel
theorem d_M_objectAt_32 : decode prog_8_method_11_code 32 = .ok (.iload_n 1, 1) := by decide +kernel
theorem d_M_objectAt_33 : decode prog_8_method_11_code 33 = .ok (.if_icmp .ne 12, 3) := by decide +kernel
theorem d_M_objectAt_36 : decode prog_8_method_11_code 36 = .ok (.aload_n 0, 1) := by decide +kernel
theorem d_M_objectAt_37 : decode prog_8_method_11_code 37 = .ok (.getfield 7, 3) := by decide +kernel
theorem d_M_objectAt_40 : decode prog_8_method_11_code 40 = .ok (.iload_n 1, 1) := by decide +kernel
theorem d_M_objectAt_41 : decode prog_8_method_11_code 41 = .ok (.iaload, 1) := by decide +kernel
theorem d_M_objectAt_42 : decode prog_8_method_11_code 42 = .ok (.goto 4, 3) := by decide +kernel
theorem d_M_objectAt_45 : decode prog_8_method_11_code 45 = .ok (.iconst (-1), 1) := by decide +kernel
theorem d_M_objectAt_46 : decode prog_8_method_11_code 46 = .ok (.ireturn, 1) := by decide +kernel
theorem d_M_addressOf_0 : decode prog_8_method_12_code 0 = .ok (.iload_n 1, 1) := by decide +kernel
theorem d_M_addressOf_1 : decode prog_8_method_12_code 1 = .ok (.ifCond .ge 7, 3) := by decide +kernel
theorem d_M_addressOf_4 : decode prog_8_method_12_code 4 = .ok (.iconst (-1), 1) := by decide +kernel
theorem d_M_addressOf_5 : decode prog_8_method_12_code 5 = .ok (.goto 9, 3) := by decide +kernel
theorem d_M_addressOf_8 : decode prog_8_method_12_code 8 = .ok (.aload_n 0, 1) := by decide +kernel
theorem d_M_addressOf_9 : decode prog_8_method_12_code 9 = .ok (.getfield 16, 3) := by decide +kernel
theorem d_M_addressOf_12 : decode prog_8_method_12_code 12 = .ok (.iload_n 1, 1) := by decide +kernel
theorem d_M_addressOf_13 : decode prog_8_method_12_code 13 = .ok (.iaload, 1) := by decide +kernel
theorem d_M_addressOf_14 : decode prog_8_method_12_code 14 = .ok (.ireturn, 1) := by decide +kernel
theorem d_M_lay_0 : decode prog_8_method_13_code 0 = .ok (.aload_n 0, 1) := by decide +kernel
theorem d_M_lay_1 : decode prog_8_method_13_code 1 = .ok (.getfield 16, 3) := by decide +kernel
theorem d_M_lay_4 : decode prog_8_method_13_code 4 = .ok (.iload_n 1, 1) := by decide +kernel
theorem d_M_lay_5 : decode prog_8_method_13_code 5 = .ok (.iload_n 2, 1) := by decide +kernel
theorem d_M_lay_6 : decode prog_8_method_13_code 6 = .ok (.iastore, 1) := by decide +kernel
theorem d_M_lay_7 : decode prog_8_method_13_code 7 = .ok (.iconst 0, 1) := by decide +kernel
theorem d_M_lay_8 : decode prog_8_method_13_code 8 = .ok (.istore_n 3, 1) := by decide +kernel
theorem d_M_lay_9 : decode prog_8_method_13_code 9 = .ok (.iload_n 3, 1) := by decide +kernel
theorem d_M_lay_10 : decode prog_8_method_13_code 10 = .ok (.aload_n 0, 1) := by decide +kernel
theorem d_M_lay_11 : decode prog_8_method_13_code 11 = .ok (.getfield 19, 3) := by decide +kernel
theorem d_M_lay_14 : decode prog_8_method_13_code 14 = .ok (.iload_n 1, 1) := by decide +kernel
theorem d_M_lay_15 : decode prog_8_method_13_code 15 = .ok (.iaload, 1) := by decide +kernel
theorem d_M_lay_16 : decode prog_8_method_13_code 16 = .ok (.if_icmp .ge 18, 3) := by decide +kernel
theorem d_M_lay_19 : decode prog_8_method_13_code 19 = .ok (.aload_n 0, 1) := by decide +kernel
theorem d_M_lay_20 : decode prog_8_method_13_code 20 = .ok (.getfield 7, 3) := by decide +kernel
theorem d_M_lay_23 : decode prog_8_method_13_code 23 = .ok (.iload_n 2, 1) := by decide +kernel
theorem d_M_lay_24 : decode prog_8_method_13_code 24 = .ok (.iload_n 3, 1) := by decide +kernel
theorem d_M_lay_25 : decode prog_8_method_13_code 25 = .ok (.iadd, 1) := by decide +kernel
theorem d_M_lay_26 : decode prog_8_method_13_code 26 = .ok (.iload_n 1, 1) := by decide +kernel
theorem d_M_lay_27 : decode prog_8_method_13_code 27 = .ok (.iastore, 1) := by decide +kernel
theorem d_M_lay_28 : decode prog_8_method_13_code 28 = .ok (.iinc 3 1, 3) := by decide +kernel
theorem d_M_lay_31 : decode prog_8_method_13_code 31 = .ok (.goto (-22), 3) := by decide +kernel
theorem d_M_lay_34 : decode prog_8_method_13_code 34 = .ok (.return_, 1) := by decide +kernel
theorem d_M_lift_0 : decode prog_8_method_14_code 0 = .ok (.aload_n 0, 1) := by decide +kernel
theorem d_M_lift_1 : decode prog_8_method_14_code 1 = .ok (.getfield 16, 3) := by decide +kernel
theorem d_M_lift_4 : decode prog_8_method_14_code 4 = .ok (.iload_n 1, 1) := by decide +kernel
theorem d_M_lift_5 : decode prog_8_method_14_code 5 = .ok (.iaload, 1) := by decide +kernel
theorem d_M_lift_6 : decode prog_8_method_14_code 6 = .ok (.istore_n 3, 1) := by decide +kernel
theorem d_M_lift_7 : decode prog_8_method_14_code 7 = .ok (.iload_n 3, 1) := by decide +kernel
theorem d_M_lift_8 : decode prog_8_method_14_code 8 = .ok (.aload_n 0, 1) := by decide +kernel
theorem d_M_lift_9 : decode prog_8_method_14_code 9 = .ok (.getfield 16, 3) := by decide +kernel
theorem d_M_lift_12 : decode prog_8_method_14_code 12 = .ok (.iload_n 1, 1) := by decide +kernel
theorem d_M_lift_13 : decode prog_8_method_14_code 13 = .ok (.iaload, 1) := by decide +kernel
theorem d_M_lift_14 : decode prog_8_method_14_code 14 = .ok (.aload_n 0, 1) := by decide +kernel
theorem d_M_lift_15 : decode prog_8_method_14_code 15 = .ok (.getfield 19, 3) := by decide +kernel
theorem d_M_lift_18 : decode prog_8_method_14_code 18 = .ok (.iload_n 1, 1) := by decide +kernel
theorem d_M_lift_19 : decode prog_8_method_14_code 19 = .ok (.iaload, 1) := by decide +kernel
theorem d_M_lift_20 : decode prog_8_method_14_code 20 = .ok (.iadd, 1) := by decide +kernel
theorem d_M_lift_21 : decode prog_8_method_14_code 21 = .ok (.if_icmp .ge 44, 3) := by decide +kernel
theorem d_M_lift_24 : decode prog_8_method_14_code 24 = .ok (.aload_n 0, 1) := by decide +kernel
theorem d_M_lift_25 : decode prog_8_method_14_code 25 = .ok (.getfield 7, 3) := by decide +kernel
theorem d_M_lift_28 : decode prog_8_method_14_code 28 = .ok (.iload_n 3, 1) := by decide +kernel
theorem d_M_lift_29 : decode prog_8_method_14_code 29 = .ok (.iconst (-1), 1) := by decide +kernel
theorem d_M_lift_30 : decode prog_8_method_14_code 30 = .ok (.iastore, 1) := by decide +kernel
theorem d_M_lift_31 : decode prog_8_method_14_code 31 = .ok (.aload_n 0, 1) := by decide +kernel
theorem d_M_lift_32 : decode prog_8_method_14_code 32 = .ok (.getfield 51, 3) := by decide +kernel
theorem d_M_lift_35 : decode prog_8_method_14_code 35 = .ok (.iload_n 3, 1) := by decide +kernel
theorem d_M_lift_36 : decode prog_8_method_14_code 36 = .ok (.iconst 4, 1) := by decide +kernel
theorem d_M_lift_37 : decode prog_8_method_14_code 37 = .ok (.idiv, 1) := by decide +kernel
theorem d_M_lift_38 : decode prog_8_method_14_code 38 = .ok (.aload_n 0, 1) := by decide +kernel
theorem d_M_lift_39 : decode prog_8_method_14_code 39 = .ok (.getfield 51, 3) := by decide +kernel
theorem d_M_lift_42 : decode prog_8_method_14_code 42 = .ok (.iload_n 3, 1) := by decide +kernel
theorem d_M_lift_43 : decode prog_8_method_14_code 43 = .ok (.iconst 4, 1) := by decide +kernel
theorem d_M_lift_44 : decode prog_8_method_14_code 44 = .ok (.idiv, 1) := by decide +kernel
theorem d_M_lift_45 : decode prog_8_method_14_code 45 = .ok (.baload, 1) := by decide +kernel
theorem d_M_lift_46 : decode prog_8_method_14_code 46 = .ok (.ifCond .ne 7, 3) := by decide +kernel
theorem d_M_lift_49 : decode prog_8_method_14_code 49 = .ok (.iload_n 2, 1) := by decide +kernel
theorem d_M_lift_50 : decode prog_8_method_14_code 50 = .ok (.ifCond .eq 7, 3) := by decide +kernel
theorem d_M_lift_53 : decode prog_8_method_14_code 53 = .ok (.iconst 1, 1) := by decide +kernel
theorem d_M_lift_54 : decode prog_8_method_14_code 54 = .ok (.goto 4, 3) := by decide +kernel
theorem d_M_lift_57 : decode prog_8_method_14_code 57 = .ok (.iconst 0, 1) := by decide +kernel
theorem d_M_lift_58 : decode prog_8_method_14_code 58 = .ok (.bastore, 1) := by decide +kernel
theorem d_M_lift_59 : decode prog_8_method_14_code 59 = .ok (.iinc 3 1, 3) := by decide +kernel
theorem d_M_lift_62 : decode prog_8_method_14_code 62 = .ok (.goto (-55), 3) := by decide +kernel
theorem d_M_lift_65 : decode prog_8_method_14_code 65 = .ok (.return_, 1) := by decide +kernel
theorem d_M_shift_0 : decode prog_8_method_15_code 0 = .ok (.aload_n 0, 1) := by decide +kernel
theorem d_M_shift_1 : decode prog_8_method_15_code 1 = .ok (.aload_n 0, 1) := by decide +kernel
theorem d_M_shift_2 : decode prog_8_method_15_code 2 = .ok (.getfield 19, 3) := by decide +kernel
theorem d_M_shift_5 : decode prog_8_method_15_code 5 = .ok (.iload_n 1, 1) := by decide +kernel
theorem d_M_shift_6 : decode prog_8_method_15_code 6 = .ok (.iaload, 1) := by decide +kernel
theorem d_M_shift_7 : decode prog_8_method_15_code 7 = .ok (.invokevirtual 101, 3) := by decide +kernel
theorem d_M_shift_10 : decode prog_8_method_15_code 10 = .ok (.istore_n 2, 1) := by decide +kernel
theorem d_M_shift_11 : decode prog_8_method_15_code 11 = .ok (.iload_n 2, 1) := by decide +kernel
theorem d_M_shift_12 : decode prog_8_method_15_code 12 = .ok (.ifCond .lt 25, 3) := by decide +kernel
theorem d_M_shift_15 : decode prog_8_method_15_code 15 = .ok (.aload_n 0, 1) := by decide +kernel
theorem d_M_shift_16 : decode prog_8_method_15_code 16 = .ok (.iload_n 1, 1) := by decide +kernel
theorem d_M_shift_17 : decode prog_8_method_15_code 17 = .ok (.iconst 1, 1) := by decide +kernel
theorem d_M_shift_18 : decode prog_8_method_15_code 18 = .ok (.invokevirtual 104, 3) := by decide +kernel
theorem d_M_shift_21 : decode prog_8_method_15_code 21 = .ok (.aload_n 0, 1) := by decide +kernel
theorem d_M_shift_22 : decode prog_8_method_15_code 22 = .ok (.iload_n 1, 1) := by decide +kernel
theorem d_M_shift_23 : decode prog_8_method_15_code 23 = .ok (.iload_n 2, 1) := by decide +kernel
theorem d_M_shift_24 : decode prog_8_method_15_code 24 = .ok (.invokevirtual 108, 3) := by decide +kernel
theorem d_M_shift_27 : decode prog_8_method_15_code 27 = .ok (.aload_n 0, 1) := by decide +kernel
theorem d_M_shift_28 : decode prog_8_method_15_code 28 = .ok (.dup, 1) := by decide +kernel
theorem d_M_shift_29 : decode prog_8_method_15_code 29 = .ok (.getfield 112, 3) := by decide +kernel
theorem d_M_shift_32 : decode prog_8_method_15_code 32 = .ok (.iconst 1, 1) := by decide +kernel
theorem d_M_shift_33 : decode prog_8_method_15_code 33 = .ok (.iadd, 1) := by decide +kernel
theorem d_M_shift_34 : decode prog_8_method_15_code 34 = .ok (.putfield 112, 3) := by decide +kernel
theorem d_M_shift_37 : decode prog_8_method_15_code 37 = .ok (.return_, 1) := by decide +kernel
theorem d_M_lose_0 : decode prog_8_method_16_code 0 = .ok (.aload_n 0, 1) := by decide +kernel
theorem d_M_lose_1 : decode prog_8_method_16_code 1 = .ok (.getfield 13, 3) := by decide +kernel
theorem d_M_lose_4 : decode prog_8_method_16_code 4 = .ok (.iload_n 1, 1) := by decide +kernel
theorem d_M_lose_5 : decode prog_8_method_16_code 5 = .ok (.iconst 0, 1) := by decide +kernel
theorem d_M_lose_6 : decode prog_8_method_16_code 6 = .ok (.iastore, 1) := by decide +kernel
theorem d_M_lose_7 : decode prog_8_method_16_code 7 = .ok (.aload_n 0, 1) := by decide +kernel
theorem d_M_lose_8 : decode prog_8_method_16_code 8 = .ok (.iload_n 1, 1) := by decide +kernel
theorem d_M_lose_9 : decode prog_8_method_16_code 9 = .ok (.iconst 0, 1) := by decide +kernel
theorem d_M_lose_10 : decode prog_8_method_16_code 10 = .ok (.invokevirtual 104, 3) := by decide +kernel
theorem d_M_lose_13 : decode prog_8_method_16_code 13 = .ok (.return_, 1) := by decide +kernel
theorem d_M_make_0 : decode prog_8_method_17_code 0 = .ok (.aload_n 0, 1) := by decide +kernel
theorem d_M_make_1 : decode prog_8_method_17_code 1 = .ok (.getfield 13, 3) := by decide +kernel
theorem d_M_make_4 : decode prog_8_method_17_code 4 = .ok (.aload_n 0, 1) := by decide +kernel
theorem d_M_make_5 : decode prog_8_method_17_code 5 = .ok (.getfield 115, 3) := by decide +kernel
theorem d_M_make_8 : decode prog_8_method_17_code 8 = .ok (.iaload, 1) := by decide +kernel
theorem d_M_make_9 : decode prog_8_method_17_code 9 = .ok (.ifCond .eq 20, 3) := by decide +kernel
theorem d_M_make_12 : decode prog_8_method_17_code 12 = .ok (.aload_n 0, 1) := by decide +kernel
theorem d_M_make_13 : decode prog_8_method_17_code 13 = .ok (.aload_n 0, 1) := by decide +kernel
theorem d_M_make_14 : decode prog_8_method_17_code 14 = .ok (.getfield 115, 3) := by decide +kernel
theorem d_M_make_17 : decode prog_8_method_17_code 17 = .ok (.iconst 1, 1) := by decide +kernel
theorem d_M_make_18 : decode prog_8_method_17_code 18 = .ok (.iadd, 1) := by decide +kernel
theorem d_M_make_19 : decode prog_8_method_17_code 19 = .ok (.sipush 256, 3) := by decide +kernel
theorem d_M_make_22 : decode prog_8_method_17_code 22 = .ok (.irem, 1) := by decide +kernel
theorem d_M_make_23 : decode prog_8_method_17_code 23 = .ok (.putfield 115, 3) := by decide +kernel
theorem d_M_make_26 : decode prog_8_method_17_code 26 = .ok (.goto (-26), 3) := by decide +kernel
theorem d_M_make_29 : decode prog_8_method_17_code 29 = .ok (.aload_n 0, 1) := by decide +kernel
theorem d_M_make_30 : decode prog_8_method_17_code 30 = .ok (.getfield 115, 3) := by decide +kernel
theorem d_M_make_33 : decode prog_8_method_17_code 33 = .ok (.istore_n 3, 1) := by decide +kernel
theorem d_M_make_34 : decode prog_8_method_17_code 34 = .ok (.aload_n 0, 1) := by decide +kernel
theorem d_M_make_35 : decode prog_8_method_17_code 35 = .ok (.aload_n 0, 1) := by decide +kernel
theorem d_M_make_36 : decode prog_8_method_17_code 36 = .ok (.getfield 115, 3) := by decide +kernel
theorem d_M_make_39 : decode prog_8_method_17_code 39 = .ok (.iconst 1, 1) := by decide +kernel
theorem d_M_make_40 : decode prog_8_method_17_code 40 = .ok (.iadd, 1) := by decide +kernel
theorem d_M_make_41 : decode prog_8_method_17_code 41 = .ok (.sipush 256, 3) := by decide +kernel
theorem d_M_make_44 : decode prog_8_method_17_code 44 = .ok (.irem, 1) := by decide +kernel
theorem d_M_make_45 : decode prog_8_method_17_code 45 = .ok (.putfield 115, 3) := by decide +kernel
theorem d_M_make_48 : decode prog_8_method_17_code 48 = .ok (.aload_n 0, 1) := by decide +kernel
theorem d_M_make_49 : decode prog_8_method_17_code 49 = .ok (.getfield 13, 3) := by decide +kernel
theorem d_M_make_52 : decode prog_8_method_17_code 52 = .ok (.iload_n 3, 1) := by decide +kernel
theorem d_M_make_53 : decode prog_8_method_17_code 53 = .ok (.iconst 1, 1) := by decide +kernel
theorem d_M_make_54 : decode prog_8_method_17_code 54 = .ok (.iastore, 1) := by decide +kernel
theorem d_M_make_55 : decode prog_8_method_17_code 55 = .ok (.aload_n 0, 1) := by decide +kernel
theorem d_M_make_56 : decode prog_8_method_17_code 56 = .ok (.getfield 19, 3) := by decide +kernel
theorem d_M_make_59 : decode prog_8_method_17_code 59 = .ok (.iload_n 3, 1) := by decide +kernel
theorem d_M_make_60 : decode prog_8_method_17_code 60 = .ok (.iload_n 1, 1) := by decide +kernel
theorem d_M_make_61 : decode prog_8_method_17_code 61 = .ok (.iastore, 1) := by decide +kernel
theorem d_M_make_62 : decode prog_8_method_17_code 62 = .ok (.aload_n 0, 1) := by decide +kernel
theorem d_M_make_63 : decode prog_8_method_17_code 63 = .ok (.getfield 22, 3) := by decide +kernel
theorem d_M_make_66 : decode prog_8_method_17_code 66 = .ok (.iload_n 3, 1) := by decide +kernel
theorem d_M_make_67 : decode prog_8_method_17_code 67 = .ok (.iload_n 2, 1) := by decide +kernel
theorem d_M_make_68 : decode prog_8_method_17_code 68 = .ok (.iastore, 1) := by decide +kernel
theorem d_M_make_69 : decode prog_8_method_17_code 69 = .ok (.aload_n 0, 1) := by decide +kernel
theorem d_M_make_70 : decode prog_8_method_17_code 70 = .ok (.getfield 25, 3) := by decide +kernel
theorem d_M_make_73 : decode prog_8_method_17_code 73 = .ok (.iload_n 3, 1) := by decide +kernel
theorem d_M_make_74 : decode prog_8_method_17_code 74 = .ok (.iconst 0, 1) := by decide +kernel
theorem d_M_make_75 : decode prog_8_method_17_code 75 = .ok (.iastore, 1) := by decide +kernel
theorem d_M_make_76 : decode prog_8_method_17_code 76 = .ok (.aload_n 0, 1) := by decide +kernel
theorem d_M_make_77 : decode prog_8_method_17_code 77 = .ok (.getfield 28, 3) := by decide +kernel
theorem d_M_make_80 : decode prog_8_method_17_code 80 = .ok (.iload_n 3, 1) := by decide +kernel
theorem d_M_make_81 : decode prog_8_method_17_code 81 = .ok (.iconst 0, 1) := by decide +kernel
theorem d_M_make_82 : decode prog_8_method_17_code 82 = .ok (.iastore, 1) := by decide +kernel
theorem d_M_make_83 : decode prog_8_method_17_code 83 = .ok (.iconst 0, 1) := by decide +kernel
theorem d_M_make_84 : decode prog_8_method_17_code 84 = .ok (.istore 4, 2) := by decide +kernel
theorem d_M_make_86 : decode prog_8_method_17_code 86 = .ok (.iload 4, 2) := by decide +kernel
theorem d_M_make_88 : decode prog_8_method_17_code 88 = .ok (.bipush 12, 2) := by decide +kernel
theorem d_M_make_90 : decode prog_8_method_17_code 90 = .ok (.if_icmp .ge 35, 3) := by decide +kernel
theorem d_M_make_93 : decode prog_8_method_17_code 93 = .ok (.aload_n 0, 1) := by decide +kernel
theorem d_M_make_94 : decode prog_8_method_17_code 94 = .ok (.getfield 31, 3) := by decide +kernel
theorem d_M_make_97 : decode prog_8_method_17_code 97 = .ok (.bipush 12, 2) := by decide +kernel
theorem d_M_make_99 : decode prog_8_method_17_code 99 = .ok (.iload_n 3, 1) := by decide +kernel
theorem d_M_make_100 : decode prog_8_method_17_code 100 = .ok (.imul, 1) := by decide +kernel
theorem d_M_make_101 : decode prog_8_method_17_code 101 = .ok (.iload 4, 2) := by decide +kernel
theorem d_M_make_103 : decode prog_8_method_17_code 103 = .ok (.iadd, 1) := by decide +kernel
theorem d_M_make_104 : decode prog_8_method_17_code 104 = .ok (.iconst (-1), 1) := by decide +kernel
theorem d_M_make_105 : decode prog_8_method_17_code 105 = .ok (.iastore, 1) := by decide +kernel
theorem d_M_make_106 : decode prog_8_method_17_code 106 = .ok (.aload_n 0, 1) := by decide +kernel
theorem d_M_make_107 : decode prog_8_method_17_code 107 = .ok (.getfield 34, 3) := by decide +kernel
theorem d_M_make_110 : decode prog_8_method_17_code 110 = .ok (.bipush 12, 2) := by decide +kernel
theorem d_M_make_112 : decode prog_8_method_17_code 112 = .ok (.iload_n 3, 1) := by decide +kernel
theorem d_M_make_113 : decode prog_8_method_17_code 113 = .ok (.imul, 1) := by decide +kernel
theorem d_M_make_114 : decode prog_8_method_17_code 114 = .ok (.iload 4, 2) := by decide +kernel
theorem d_M_make_116 : decode prog_8_method_17_code 116 = .ok (.iadd, 1) := by decide +kernel
theorem d_M_make_117 : decode prog_8_method_17_code 117 = .ok (.iconst 0, 1) := by decide +kernel
theorem d_M_make_118 : decode prog_8_method_17_code 118 = .ok (.bastore, 1) := by decide +kernel
theorem d_M_make_119 : decode prog_8_method_17_code 119 = .ok (.iinc 4 1, 3) := by decide +kernel
theorem d_M_make_122 : decode prog_8_method_17_code 122 = .ok (.goto (-36), 3) := by decide +kernel
theorem d_M_make_125 : decode prog_8_method_17_code 125 = .ok (.iload_n 3, 1) := by decide +kernel
theorem d_M_make_126 : decode prog_8_method_17_code 126 = .ok (.ireturn, 1) := by decide +kernel
theorem d_M_isWhite_0 : decode prog_8_method_18_code 0 = .ok (.iload_n 1, 1) := by decide +kernel
theorem d_M_isWhite_1 : decode prog_8_method_18_code 1 = .ok (.ifCond .lt 26, 3) := by decide +kernel
theorem d_M_isWhite_4 : decode prog_8_method_18_code 4 = .ok (.aload_n 0, 1) := by decide +kernel
theorem d_M_isWhite_5 : decode prog_8_method_18_code 5 = .ok (.getfield 13, 3) := by decide +kernel
theorem d_M_isWhite_8 : decode prog_8_method_18_code 8 = .ok (.iload_n 1, 1) := by decide +kernel
theorem d_M_isWhite_9 : decode prog_8_method_18_code 9 = .ok (.iaload, 1) := by decide +kernel
theorem d_M_isWhite_10 : decode prog_8_method_18_code 10 = .ok (.iconst 2, 1) := by decide +kernel
theorem d_M_isWhite_11 : decode prog_8_method_18_code 11 = .ok (.if_icmp .ne 16, 3) := by decide +kernel
theorem d_M_isWhite_14 : decode prog_8_method_18_code 14 = .ok (.aload_n 0, 1) := by decide +kernel
theorem d_M_isWhite_15 : decode prog_8_method_18_code 15 = .ok (.getfield 28, 3) := by decide +kernel
theorem d_M_isWhite_18 : decode prog_8_method_18_code 18 = .ok (.iload_n 1, 1) := by decide +kernel
theorem d_M_isWhite_19 : decode prog_8_method_18_code 19 = .ok (.iaload, 1) := by decide +kernel
theorem d_M_isWhite_20 : decode prog_8_method_18_code 20 = .ok (.ifCond .ne 7, 3) := by decide +kernel
theorem d_M_isWhite_23 : decode prog_8_method_18_code 23 = .ok (.iconst 1, 1) := by decide +kernel
theorem d_M_isWhite_24 : decode prog_8_method_18_code 24 = .ok (.goto 4, 3) := by decide +kernel
theorem d_M_isWhite_27 : decode prog_8_method_18_code 27 = .ok (.iconst 0, 1) := by decide +kernel
theorem d_M_isWhite_28 : decode prog_8_method_18_code 28 = .ok (.ireturn, 1) := by decide +kernel
theorem d_M_greys_0 : decode prog_8_method_19_code 0 = .ok (.iconst 0, 1) := by decide +kernel
theorem d_M_greys_1 : decode prog_8_method_19_code 1 = .ok (.istore_n 1, 1) := by decide +kernel
theorem d_M_greys_2 : decode prog_8_method_19_code 2 = .ok (.iconst 0, 1) := by decide +kernel
theorem d_M_greys_3 : decode prog_8_method_19_code 3 = .ok (.istore_n 2, 1) := by decide +kernel
theorem d_M_greys_4 : decode prog_8_method_19_code 4 = .ok (.iload_n 2, 1) := by decide +kernel
theorem d_M_greys_5 : decode prog_8_method_19_code 5 = .ok (.sipush 256, 3) := by decide +kernel
theorem d_M_greys_8 : decode prog_8_method_19_code 8 = .ok (.if_icmp .ge 37, 3) := by decide +kernel
theorem d_M_greys_11 : decode prog_8_method_19_code 11 = .ok (.aload_n 0, 1) := by decide +kernel
theorem d_M_greys_12 : decode prog_8_method_19_code 12 = .ok (.getfield 13, 3) := by decide +kernel
theorem d_M_greys_15 : decode prog_8_method_19_code 15 = .ok (.iload_n 2, 1) := by decide +kernel
theorem d_M_greys_16 : decode prog_8_method_19_code 16 = .ok (.iaload, 1) := by decide +kernel
theorem d_M_greys_17 : decode prog_8_method_19_code 17 = .ok (.iconst 2, 1) := by decide +kernel
theorem d_M_greys_18 : decode prog_8_method_19_code 18 = .ok (.if_icmp .ne 19, 3) := by decide +kernel
theorem d_M_greys_21 : decode prog_8_method_19_code 21 = .ok (.aload_n 0, 1) := by decide +kernel
theorem d_M_greys_22 : decode prog_8_method_19_code 22 = .ok (.getfield 28, 3) := by decide +kernel
theorem d_M_greys_25 : decode prog_8_method_19_code 25 = .ok (.iload_n 2, 1) := by decide +kernel
theorem d_M_greys_26 : decode prog_8_method_19_code 26 = .ok (.iaload, 1) := by decide +kernel
theorem d_M_greys_27 : decode prog_8_method_19_code 27 = .ok (.iconst 1, 1) := by decide +kernel
theorem d_M_greys_28 : decode prog_8_method_19_code 28 = .ok (.if_icmp .ne 9, 3) := by decide +kernel
theorem d_M_greys_31 : decode prog_8_method_19_code 31 = .ok (.iload_n 1, 1) := by decide +kernel
theorem d_M_greys_32 : decode prog_8_method_19_code 32 = .ok (.iconst 1, 1) := by decide +kernel
theorem d_M_greys_33 : decode prog_8_method_19_code 33 = .ok (.iadd, 1) := by decide +kernel
theorem d_M_greys_34 : decode prog_8_method_19_code 34 = .ok (.goto 4, 3) := by decide +kernel
theorem d_M_greys_37 : decode prog_8_method_19_code 37 = .ok (.iload_n 1, 1) := by decide +kernel
theorem d_M_greys_38 : decode prog_8_method_19_code 38 = .ok (.istore_n 1, 1) := by decide +kernel
theorem d_M_greys_39 : decode prog_8_method_19_code 39 = .ok (.iinc 2 1, 3) := by decide +kernel
theorem d_M_greys_42 : decode prog_8_method_19_code 42 = .ok (.goto (-38), 3) := by decide +kernel
theorem d_M_greys_45 : decode prog_8_method_19_code 45 = .ok (.iload_n 1, 1) := by decide +kernel
theorem d_M_greys_46 : decode prog_8_method_19_code 46 = .ok (.ireturn, 1) := by decide +kernel
theorem d_M_wait_0 : decode prog_8_method_20_code 0 = .ok (.iload_n 1, 1) := by decide +kernel
theorem d_M_wait_1 : decode prog_8_method_20_code 1 = .ok (.ifCond .lt 23, 3) := by decide +kernel
theorem d_M_wait_4 : decode prog_8_method_20_code 4 = .ok (.aload_n 0, 1) := by decide +kernel
theorem d_M_wait_5 : decode prog_8_method_20_code 5 = .ok (.getfield 57, 3) := by decide +kernel
theorem d_M_wait_8 : decode prog_8_method_20_code 8 = .ok (.aload_n 0, 1) := by decide +kernel
theorem d_M_wait_9 : decode prog_8_method_20_code 9 = .ok (.getfield 118, 3) := by decide +kernel
theorem d_M_wait_12 : decode prog_8_method_20_code 12 = .ok (.iload_n 1, 1) := by decide +kernel
theorem d_M_wait_13 : decode prog_8_method_20_code 13 = .ok (.iastore, 1) := by decide +kernel
theorem d_M_wait_14 : decode prog_8_method_20_code 14 = .ok (.aload_n 0, 1) := by decide +kernel
theorem d_M_wait_15 : decode prog_8_method_20_code 15 = .ok (.dup, 1) := by decide +kernel
theorem d_M_wait_16 : decode prog_8_method_20_code 16 = .ok (.getfield 118, 3) := by decide +kernel
theorem d_M_wait_19 : decode prog_8_method_20_code 19 = .ok (.iconst 1, 1) := by decide +kernel
theorem d_M_wait_20 : decode prog_8_method_20_code 20 = .ok (.iadd, 1) := by decide +kernel
theorem d_M_wait_21 : decode prog_8_method_20_code 21 = .ok (.putfield 118, 3) := by decide +kernel
theorem d_M_wait_24 : decode prog_8_method_20_code 24 = .ok (.return_, 1) := by decide +kernel
theorem d_M_vanish_0 : decode prog_8_method_21_code 0 = .ok (.iconst 0, 1) := by decide +kernel
theorem d_M_vanish_1 : decode prog_8_method_21_code 1 = .ok (.istore_n 2, 1) := by decide +kernel
theorem d_M_vanish_2 : decode prog_8_method_21_code 2 = .ok (.iload_n 2, 1) := by decide +kernel
theorem d_M_vanish_3 : decode prog_8_method_21_code 3 = .ok (.aload_n 0, 1) := by decide +kernel
theorem d_M_vanish_4 : decode prog_8_method_21_code 4 = .ok (.getfield 19, 3) := by decide +kernel
theorem d_M_vanish_7 : decode prog_8_method_21_code 7 = .ok (.iload_n 1, 1) := by decide +kernel
theorem d_M_vanish_8 : decode prog_8_method_21_code 8 = .ok (.iaload, 1) := by decide +kernel
theorem d_M_vanish_9 : decode prog_8_method_21_code 9 = .ok (.if_icmp .ge 51, 3) := by decide +kernel
theorem d_M_vanish_12 : decode prog_8_method_21_code 12 = .ok (.aload_n 0, 1) := by decide +kernel
theorem d_M_vanish_13 : decode prog_8_method_21_code 13 = .ok (.getfield 31, 3) := by decide +kernel
theorem d_M_vanish_16 : decode prog_8_method_21_code 16 = .ok (.bipush 12, 2) := by decide +kernel
theorem d_M_vanish_18 : decode prog_8_method_21_code 18 = .ok (.iload_n 1, 1) := by decide +kernel
theorem d_M_vanish_19 : decode prog_8_method_21_code 19 = .ok (.imul, 1) := by decide +kernel
theorem d_M_vanish_20 : decode prog_8_method_21_code 20 = .ok (.iload_n 2, 1) := by decide +kernel
theorem d_M_vanish_21 : decode prog_8_method_21_code 21 = .ok (.iadd, 1) := by decide +kernel
theorem d_M_vanish_22 : decode prog_8_method_21_code 22 = .ok (.iaload, 1) := by decide +kernel
theorem d_M_vanish_23 : decode prog_8_method_21_code 23 = .ok (.istore_n 3, 1) := by decide +kernel
theorem d_M_vanish_24 : decode prog_8_method_21_code 24 = .ok (.aload_n 0, 1) := by decide +kernel
theorem d_M_vanish_25 : decode prog_8_method_21_code 25 = .ok (.iload_n 3, 1) := by decide +kernel
theorem d_M_vanish_26 : decode prog_8_method_21_code 26 = .ok (.invokevirtual 121, 3) := by decide +kernel
theorem d_M_vanish_29 : decode prog_8_method_21_code 29 = .ok (.aload_n 0, 1) := by decide +kernel
theorem d_M_vanish_30 : decode prog_8_method_21_code 30 = .ok (.getfield 28, 3) := by decide +kernel
theorem d_M_vanish_33 : decode prog_8_method_21_code 33 = .ok (.iload_n 1, 1) := by decide +kernel
theorem d_M_vanish_34 : decode prog_8_method_21_code 34 = .ok (.iaload, 1) := by decide +kernel
theorem d_M_vanish_35 : decode prog_8_method_21_code 35 = .ok (.iconst 1, 1) := by decide +kernel
theorem d_M_vanish_36 : decode prog_8_method_21_code 36 = .ok (.if_icmp .ne 18, 3) := by decide +kernel
theorem d_M_vanish_39 : decode prog_8_method_21_code 39 = .ok (.aload_n 0, 1) := by decide +kernel
theorem d_M_vanish_40 : decode prog_8_method_21_code 40 = .ok (.iload_n 3, 1) := by decide +kernel
theorem d_M_vanish_41 : decode prog_8_method_21_code 41 = .ok (.invokevirtual 125, 3) := by decide +kernel
theorem d_M_vanish_44 : decode prog_8_method_21_code 44 = .ok (.ifCond .eq 10, 3) := by decide +kernel
theorem d_M_vanish_47 : decode prog_8_method_21_code 47 = .ok (.aload_n 0, 1) := by decide +kernel
theorem d_M_vanish_48 : decode prog_8_method_21_code 48 = .ok (.getfield 28, 3) := by decide +kernel
theorem d_M_vanish_51 : decode prog_8_method_21_code 51 = .ok (.iload_n 3, 1) := by decide +kernel
theorem d_M_vanish_52 : decode prog_8_method_21_code 52 = .ok (.iconst 1, 1) := by decide +kernel
theorem d_M_vanish_53 : decode prog_8_method_21_code 53 = .ok (.iastore, 1) := by decide +kernel
theorem d_M_vanish_54 : decode prog_8_method_21_code 54 = .ok (.iinc 2 1, 3) := by decide +kernel
theorem d_M_vanish_57 : decode prog_8_method_21_code 57 = .ok (.goto (-55), 3) := by decide +kernel
theorem d_M_vanish_60 : decode prog_8_method_21_code 60 = .ok (.aload_n 0, 1) := by decide +kernel
theorem d_M_vanish_61 : decode prog_8_method_21_code 61 = .ok (.iload_n 1, 1) := by decide +kernel
theorem d_M_vanish_62 : decode prog_8_method_21_code 62 = .ok (.invokevirtual 128, 3) := by decide +kernel
theorem d_M_vanish_65 : decode prog_8_method_21_code 65 = .ok (.return_, 1) := by decide +kernel
theorem d_M_drainOne_0 : decode prog_8_method_22_code 0 = .ok (.aload_n 0, 1) := by decide +kernel
theorem d_M_drainOne_1 : decode prog_8_method_22_code 1 = .ok (.getfield 57, 3) := by decide +kernel
theorem d_M_drainOne_4 : decode prog_8_method_22_code 4 = .ok (.iconst 0, 1) := by decide +kernel
theorem d_M_drainOne_5 : decode prog_8_method_22_code 5 = .ok (.iaload, 1) := by decide +kernel
theorem d_M_drainOne_6 : decode prog_8_method_22_code 6 = .ok (.istore_n 1, 1) := by decide +kernel
theorem d_M_drainOne_7 : decode prog_8_method_22_code 7 = .ok (.aload_n 0, 1) := by decide +kernel
theorem d_M_drainOne_8 : decode prog_8_method_22_code 8 = .ok (.dup, 1) := by decide +kernel
theorem d_M_drainOne_9 : decode prog_8_method_22_code 9 = .ok (.getfield 118, 3) := by decide +kernel
theorem d_M_drainOne_12 : decode prog_8_method_22_code 12 = .ok (.iconst 1, 1) := by decide +kernel
theorem d_M_drainOne_13 : decode prog_8_method_22_code 13 = .ok (.isub, 1) := by decide +kernel
theorem d_M_drainOne_14 : decode prog_8_method_22_code 14 = .ok (.putfield 118, 3) := by decide +kernel
theorem d_M_drainOne_17 : decode prog_8_method_22_code 17 = .ok (.iconst 0, 1) := by decide +kernel
theorem d_M_drainOne_18 : decode prog_8_method_22_code 18 = .ok (.istore_n 2, 1) := by decide +kernel
theorem d_M_drainOne_19 : decode prog_8_method_22_code 19 = .ok (.iload_n 2, 1) := by decide +kernel
theorem d_M_drainOne_20 : decode prog_8_method_22_code 20 = .ok (.aload_n 0, 1) := by decide +kernel
theorem d_M_drainOne_21 : decode prog_8_method_22_code 21 = .ok (.getfield 118, 3) := by decide +kernel
theorem d_M_drainOne_24 : decode prog_8_method_22_code 24 = .ok (.if_icmp .ge 23, 3) := by decide +kernel
theorem d_M_drainOne_27 : decode prog_8_method_22_code 27 = .ok (.aload_n 0, 1) := by decide +kernel
theorem d_M_drainOne_28 : decode prog_8_method_22_code 28 = .ok (.getfield 57, 3) := by decide +kernel
theorem d_M_drainOne_31 : decode prog_8_method_22_code 31 = .ok (.iload_n 2, 1) := by decide +kernel
theorem d_M_drainOne_32 : decode prog_8_method_22_code 32 = .ok (.aload_n 0, 1) := by decide +kernel
theorem d_M_drainOne_33 : decode prog_8_method_22_code 33 = .ok (.getfield 57, 3) := by decide +kernel
theorem d_M_drainOne_36 : decode prog_8_method_22_code 36 = .ok (.iload_n 2, 1) := by decide +kernel
theorem d_M_drainOne_37 : decode prog_8_method_22_code 37 = .ok (.iconst 1, 1) := by decide +kernel
theorem d_M_drainOne_38 : decode prog_8_method_22_code 38 = .ok (.iadd, 1) := by decide +kernel
theorem d_M_drainOne_39 : decode prog_8_method_22_code 39 = .ok (.iaload, 1) := by decide +kernel
theorem d_M_drainOne_40 : decode prog_8_method_22_code 40 = .ok (.iastore, 1) := by decide +kernel
theorem d_M_drainOne_41 : decode prog_8_method_22_code 41 = .ok (.iinc 2 1, 3) := by decide +kernel
theorem d_M_drainOne_44 : decode prog_8_method_22_code 44 = .ok (.goto (-25), 3) := by decide +kernel
theorem d_M_drainOne_47 : decode prog_8_method_22_code 47 = .ok (.aload_n 0, 1) := by decide +kernel
