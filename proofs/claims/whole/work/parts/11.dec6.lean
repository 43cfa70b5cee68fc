/-! Instructions (written by a program) -/
theorem d_L_load_22 : decode method_6_code 22 = .ok (.ireturn, 1) := by decide +kernel
theorem d_L_load_23 : decode method_6_code 23 = .ok (.astore 5, 2) := by decide +kernel
theorem d_L_load_25 : decode method_6_code 25 = .ok (.iconst 3, 1) := by decide +kernel
theorem d_L_load_26 : decode method_6_code 26 = .ok (.ireturn, 1) := by decide +kernel
theorem d_L_load_27 : decode method_6_code 27 = .ok (.iconst 0, 1) := by decide +kernel
theorem d_L_load_28 : decode method_6_code 28 = .ok (.ireturn, 1) := by decide +kernel
theorem d_L_store_0 : decode method_7_code 0 = .ok (.aload_n 0, 1) := by decide +kernel
theorem d_L_store_1 : decode method_7_code 1 = .ok (.iload_n 1, 1) := by decide +kernel
theorem d_L_store_2 : decode method_7_code 2 = .ok (.iload_n 2, 1) := by decide +kernel
theorem d_L_store_3 : decode method_7_code 3 = .ok (.iload_n 3, 1) := by decide +kernel
theorem d_L_store_4 : decode method_7_code 4 = .ok (.invokevirtual 32, 3) := by decide +kernel
theorem d_L_store_7 : decode method_7_code 7 = .ok (.goto 15, 3) := by decide +kernel
theorem d_L_store_10 : decode method_7_code 10 = .ok (.astore 4, 2) := by decide +kernel
theorem d_L_store_12 : decode method_7_code 12 = .ok (.iconst 1, 1) := by decide +kernel
theorem d_L_store_13 : decode method_7_code 13 = .ok (.ireturn, 1) := by decide +kernel
theorem d_L_store_14 : decode method_7_code 14 = .ok (.astore 4, 2) := by decide +kernel
theorem d_L_store_16 : decode method_7_code 16 = .ok (.iconst 2, 1) := by decide +kernel
theorem d_L_store_17 : decode method_7_code 17 = .ok (.ireturn, 1) := by decide +kernel
theorem d_L_store_18 : decode method_7_code 18 = .ok (.astore 4, 2) := by decide +kernel
theorem d_L_store_20 : decode method_7_code 20 = .ok (.iconst 3, 1) := by decide +kernel
theorem d_L_store_21 : decode method_7_code 21 = .ok (.ireturn, 1) := by decide +kernel
theorem d_L_store_22 : decode method_7_code 22 = .ok (.iconst 0, 1) := by decide +kernel
theorem d_L_store_23 : decode method_7_code 23 = .ok (.ireturn, 1) := by decide +kernel
theorem d_L_drain_0 : decode method_8_code 0 = .ok (.aload_n 2, 1) := by decide +kernel
theorem d_L_drain_1 : decode method_8_code 1 = .ok (.iconst 0, 1) := by decide +kernel
theorem d_L_drain_2 : decode method_8_code 2 = .ok (.aload_n 0, 1) := by decide +kernel
theorem d_L_drain_3 : decode method_8_code 3 = .ok (.iload_n 1, 1) := by decide +kernel
theorem d_L_drain_4 : decode method_8_code 4 = .ok (.invokevirtual 36, 3) := by decide +kernel
theorem d_L_drain_7 : decode method_8_code 7 = .ok (.i2l, 1) := by decide +kernel
theorem d_L_drain_8 : decode method_8_code 8 = .ok (.lastore, 1) := by decide +kernel
theorem d_L_drain_9 : decode method_8_code 9 = .ok (.goto 6, 3) := by decide +kernel
theorem d_L_drain_12 : decode method_8_code 12 = .ok (.astore_n 3, 1) := by decide +kernel
theorem d_L_drain_13 : decode method_8_code 13 = .ok (.iconst 1, 1) := by decide +kernel
theorem d_L_drain_14 : decode method_8_code 14 = .ok (.ireturn, 1) := by decide +kernel
theorem d_L_drain_15 : decode method_8_code 15 = .ok (.iconst 0, 1) := by decide +kernel
theorem d_L_drain_16 : decode method_8_code 16 = .ok (.ireturn, 1) := by decide +kernel
theorem d_L_trace_0 : decode method_9_code 0 = .ok (.aload_n 2, 1) := by decide +kernel
theorem d_L_trace_1 : decode method_9_code 1 = .ok (.iconst 0, 1) := by decide +kernel
theorem d_L_trace_2 : decode method_9_code 2 = .ok (.aload_n 0, 1) := by decide +kernel
theorem d_L_trace_3 : decode method_9_code 3 = .ok (.iload_n 1, 1) := by decide +kernel
theorem d_L_trace_4 : decode method_9_code 4 = .ok (.invokevirtual 40, 3) := by decide +kernel
theorem d_L_trace_7 : decode method_9_code 7 = .ok (.i2l, 1) := by decide +kernel
theorem d_L_trace_8 : decode method_9_code 8 = .ok (.lastore, 1) := by decide +kernel
theorem d_L_trace_9 : decode method_9_code 9 = .ok (.goto 9, 3) := by decide +kernel
theorem d_L_trace_12 : decode method_9_code 12 = .ok (.astore_n 3, 1) := by decide +kernel
theorem d_L_trace_13 : decode method_9_code 13 = .ok (.iconst 1, 1) := by decide +kernel
theorem d_L_trace_14 : decode method_9_code 14 = .ok (.ireturn, 1) := by decide +kernel
theorem d_L_trace_15 : decode method_9_code 15 = .ok (.astore_n 3, 1) := by decide +kernel
theorem d_L_trace_16 : decode method_9_code 16 = .ok (.iconst 2, 1) := by decide +kernel
theorem d_L_trace_17 : decode method_9_code 17 = .ok (.ireturn, 1) := by decide +kernel
theorem d_L_trace_18 : decode method_9_code 18 = .ok (.iconst 0, 1) := by decide +kernel
theorem d_L_trace_19 : decode method_9_code 19 = .ok (.ireturn, 1) := by decide +kernel
theorem d_L_root_0 : decode method_10_code 0 = .ok (.aload_n 2, 1) := by decide +kernel
theorem d_L_root_1 : decode method_10_code 1 = .ok (.iconst 0, 1) := by decide +kernel
theorem d_L_root_2 : decode method_10_code 2 = .ok (.aload_n 0, 1) := by decide +kernel
theorem d_L_root_3 : decode method_10_code 3 = .ok (.iload_n 1, 1) := by decide +kernel
theorem d_L_root_4 : decode method_10_code 4 = .ok (.invokevirtual 43, 3) := by decide +kernel
theorem d_L_root_7 : decode method_10_code 7 = .ok (.i2l, 1) := by decide +kernel
theorem d_L_root_8 : decode method_10_code 8 = .ok (.lastore, 1) := by decide +kernel
theorem d_L_root_9 : decode method_10_code 9 = .ok (.goto 6, 3) := by decide +kernel
theorem d_L_root_12 : decode method_10_code 12 = .ok (.astore_n 3, 1) := by decide +kernel
theorem d_L_root_13 : decode method_10_code 13 = .ok (.iconst 1, 1) := by decide +kernel
theorem d_L_root_14 : decode method_10_code 14 = .ok (.ireturn, 1) := by decide +kernel
theorem d_L_root_15 : decode method_10_code 15 = .ok (.iconst 0, 1) := by decide +kernel
theorem d_L_root_16 : decode method_10_code 16 = .ok (.ireturn, 1) := by decide +kernel
theorem d_L_field_0 : decode method_11_code 0 = .ok (.aload_n 3, 1) := by decide +kernel
theorem d_L_field_1 : decode method_11_code 1 = .ok (.iconst 0, 1) := by decide +kernel
theorem d_L_field_2 : decode method_11_code 2 = .ok (.aload_n 0, 1) := by decide +kernel
theorem d_L_field_3 : decode method_11_code 3 = .ok (.iload_n 1, 1) := by decide +kernel
theorem d_L_field_4 : decode method_11_code 4 = .ok (.iload_n 2, 1) := by decide +kernel
theorem d_L_field_5 : decode method_11_code 5 = .ok (.invokevirtual 46, 3) := by decide +kernel
theorem d_L_field_8 : decode method_11_code 8 = .ok (.i2l, 1) := by decide +kernel
theorem d_L_field_9 : decode method_11_code 9 = .ok (.lastore, 1) := by decide +kernel
theorem d_L_field_10 : decode method_11_code 10 = .ok (.goto 11, 3) := by decide +kernel
theorem d_L_field_13 : decode method_11_code 13 = .ok (.astore 4, 2) := by decide +kernel
theorem d_L_field_15 : decode method_11_code 15 = .ok (.iconst 1, 1) := by decide +kernel
theorem d_L_field_16 : decode method_11_code 16 = .ok (.ireturn, 1) := by decide +kernel
theorem d_L_field_17 : decode method_11_code 17 = .ok (.astore 4, 2) := by decide +kernel
theorem d_L_field_19 : decode method_11_code 19 = .ok (.iconst 2, 1) := by decide +kernel
theorem d_L_field_20 : decode method_11_code 20 = .ok (.ireturn, 1) := by decide +kernel
theorem d_L_field_21 : decode method_11_code 21 = .ok (.iconst 0, 1) := by decide +kernel
theorem d_L_field_22 : decode method_11_code 22 = .ok (.ireturn, 1) := by decide +kernel
theorem d_L_object_0 : decode method_12_code 0 = .ok (.aload_n 3, 1) := by decide +kernel
theorem d_L_object_1 : decode method_12_code 1 = .ok (.iconst 0, 1) := by decide +kernel
theorem d_L_object_2 : decode method_12_code 2 = .ok (.aload_n 0, 1) := by decide +kernel
theorem d_L_object_3 : decode method_12_code 3 = .ok (.iload_n 1, 1) := by decide +kernel
theorem d_L_object_4 : decode method_12_code 4 = .ok (.iload_n 2, 1) := by decide +kernel
theorem d_L_object_5 : decode method_12_code 5 = .ok (.invokevirtual 52, 3) := by decide +kernel
theorem d_L_object_8 : decode method_12_code 8 = .ok (.i2l, 1) := by decide +kernel
theorem d_L_object_9 : decode method_12_code 9 = .ok (.lastore, 1) := by decide +kernel
theorem d_L_object_10 : decode method_12_code 10 = .ok (.goto 11, 3) := by decide +kernel
theorem d_L_object_13 : decode method_12_code 13 = .ok (.astore 4, 2) := by decide +kernel
theorem d_L_object_15 : decode method_12_code 15 = .ok (.iconst 1, 1) := by decide +kernel
theorem d_L_object_16 : decode method_12_code 16 = .ok (.ireturn, 1) := by decide +kernel
theorem d_L_object_17 : decode method_12_code 17 = .ok (.astore 4, 2) := by decide +kernel
theorem d_L_object_19 : decode method_12_code 19 = .ok (.iconst 2, 1) := by decide +kernel
theorem d_L_object_20 : decode method_12_code 20 = .ok (.ireturn, 1) := by decide +kernel
theorem d_L_object_21 : decode method_12_code 21 = .ok (.iconst 0, 1) := by decide +kernel
theorem d_L_object_22 : decode method_12_code 22 = .ok (.ireturn, 1) := by decide +kernel
theorem d_L_line_0 : decode method_13_code 0 = .ok (.aload_n 2, 1) := by decide +kernel
theorem d_L_line_1 : decode method_13_code 1 = .ok (.iconst 0, 1) := by decide +kernel
theorem d_L_line_2 : decode method_13_code 2 = .ok (.aload_n 0, 1) := by decide +kernel
theorem d_L_line_3 : decode method_13_code 3 = .ok (.iload_n 1, 1) := by decide +kernel
theorem d_L_line_4 : decode method_13_code 4 = .ok (.invokevirtual 55, 3) := by decide +kernel
theorem d_L_line_7 : decode method_13_code 7 = .ok (.i2l, 1) := by decide +kernel
theorem d_L_line_8 : decode method_13_code 8 = .ok (.lastore, 1) := by decide +kernel
theorem d_L_line_9 : decode method_13_code 9 = .ok (.goto 6, 3) := by decide +kernel
theorem d_L_line_12 : decode method_13_code 12 = .ok (.astore_n 3, 1) := by decide +kernel
theorem d_L_line_13 : decode method_13_code 13 = .ok (.iconst 1, 1) := by decide +kernel
theorem d_L_line_14 : decode method_13_code 14 = .ok (.ireturn, 1) := by decide +kernel
theorem d_L_line_15 : decode method_13_code 15 = .ok (.iconst 0, 1) := by decide +kernel
theorem d_L_line_16 : decode method_13_code 16 = .ok (.ireturn, 1) := by decide +kernel
theorem d_L_figure_0 : decode method_14_code 0 = .ok (.aload_n 2, 1) := by decide +kernel
theorem d_L_figure_1 : decode method_14_code 1 = .ok (.iconst 0, 1) := by decide +kernel
theorem d_L_figure_2 : decode method_14_code 2 = .ok (.aload_n 0, 1) := by decide +kernel
theorem d_L_figure_3 : decode method_14_code 3 = .ok (.iload_n 1, 1) := by decide +kernel
theorem d_L_figure_4 : decode method_14_code 4 = .ok (.invokevirtual 58, 3) := by decide +kernel
theorem d_L_figure_7 : decode method_14_code 7 = .ok (.i2l, 1) := by decide +kernel
theorem d_L_figure_8 : decode method_14_code 8 = .ok (.lastore, 1) := by decide +kernel
theorem d_L_figure_9 : decode method_14_code 9 = .ok (.goto 6, 3) := by decide +kernel
theorem d_L_figure_12 : decode method_14_code 12 = .ok (.astore_n 3, 1) := by decide +kernel
theorem d_L_figure_13 : decode method_14_code 13 = .ok (.iconst 1, 1) := by decide +kernel
theorem d_L_figure_14 : decode method_14_code 14 = .ok (.ireturn, 1) := by decide +kernel
theorem d_L_figure_15 : decode method_14_code 15 = .ok (.iconst 0, 1) := by decide +kernel
theorem d_L_figure_16 : decode method_14_code 16 = .ok (.ireturn, 1) := by decide +kernel
