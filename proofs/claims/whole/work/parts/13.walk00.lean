/-! The machine meets the predicates (written by a program) -/
theorem c_S_init {l : Launch} (hl : l.stackTraces = false) {G : Gl} {x : Nat} {post : Mem → Prop} {μ : Mem} (h : wS_init x post μ) : Ct l G i_S_init [.inr (.inl (some x))] μ (poV post) noX := by
  refine ct_ofI hl (by decide) (Nat.le_of_ble_eq_true rfl) ?_
  intro K hKl C Q hI
  clear hl hKl
  replace C : Cx K G prog_6_method_1_code "LineCollector$Span" 1 { frames := 1, cells := 0, slots := 0, locals := 20 } := C
  replace Q : Cq K G { frames := 1, cells := 0, slots := 0, locals := 20 } (none) (poV post) noX := Q
  show Rn K G 1 0 [(0, .inr (.inl (some x)))] [] μ 0 0
  unfold wS_init at h
  refine r_aload_n (pc := 0) C d_S_init_0 rfl 0 rfl ?_
  refine r_obj (pc := 1) C (k_38 C.w) (x_objI C.w) (x_objC C.w) d_S_init_1 ⟨by decide, Nat.le_of_ble_eq_true rfl⟩ ?_
  exact r_vret (pc := 4) C Q d_S_init_4 (by decide) (by decide) h
theorem c_P_init {l : Launch} (hl : l.stackTraces = false) {G : Gl} {x : Nat} {post : Mem → Prop} {μ : Mem} (h : wP_init x post μ) : Ct l G i_P_init [.inr (.inl (some x))] μ (poV post) noX := by
  refine ct_ofI hl (by decide) (Nat.le_of_ble_eq_true rfl) ?_
  intro K hKl C Q hI
  clear hl hKl
  replace C : Cx K G prog_4_method_1_code "LineCollector$Places" 1 { frames := 2, cells := 4, slots := 70, locals := 40 } := C
  replace Q : Cq K G { frames := 2, cells := 4, slots := 70, locals := 40 } (none) (poV post) noX := Q
  show Rn K G 1 0 [(0, .inr (.inl (some x)))] [] μ 0 0
  unfold wP_init at h
  refine r_aload_n (pc := 0) C d_P_init_0 rfl 0 rfl ?_
  refine r_obj (pc := 1) C (k_32 C.w) (x_objI C.w) (x_objC C.w) d_P_init_1 ⟨by decide, Nat.le_of_ble_eq_true rfl⟩ ?_
  refine r_aload_n (pc := 4) C d_P_init_4 rfl 0 rfl ?_
  refine r_bipush (pc := 5) C d_P_init_5 (v := 32) (by decide) ?_
  refine r_newI (pc := 7) (M := 32) (a' := 1) (b' := 32) C x_acI d_P_init_7 (by decide) (by decide) (by decide) ⟨by decide, by decide⟩ rfl rfl ?_
  intro y1 μ2 ey1 eμ2; replace h := h y1 μ2 ey1 eμ2
  obtain ⟨o3, h⟩ := h
  refine r_putUR (pc := 9) (ci := 1) C rfl 0 (by decide) (k_51 C.w) (Or.inr ⟨rfl, hI, rfl⟩) rfl p_AI (Or.inr ⟨_, rfl⟩) o3 d_P_init_9 ?_
  intro μ4 eμ4; replace h := h μ4 eμ4
  refine r_aload_n (pc := 12) C d_P_init_12 rfl 0 rfl ?_
  refine r_bipush (pc := 13) C d_P_init_13 (v := 32) (by decide) ?_
  refine r_newZ (pc := 15) (M := 32) (a' := 2) (b' := 64) C x_acZ d_P_init_15 (by decide) (by decide) (by decide) ⟨by decide, by decide⟩ rfl rfl ?_
  intro y5 μ6 ey5 eμ6; replace h := h y5 μ6 ey5 eμ6
  refine r_putUR (pc := 17) (ci := 1) C rfl 1 (by decide) (k_52 C.w) (Or.inr ⟨rfl, hI, rfl⟩) rfl p_AZ (Or.inr ⟨_, rfl⟩) (ok_m eμ6 (ok_t eμ4 o3)) d_P_init_17 ?_
  intro μ7 eμ7; replace h := h μ7 eμ7
  refine r_aload_n (pc := 20) C d_P_init_20 rfl 0 rfl ?_
  refine r_new (pc := 21) (ci := 2) (a' := 3) (b' := 67) C rfl (k_33 C.w) x_io2 x_ii2 d_P_init_21 ⟨by decide, by decide⟩ rfl rfl ?_
  intro y8 μ9 ey8 eμ9; replace h := h y8 μ9 ey8 eμ9
  refine r_dupR (pc := 24) C d_P_init_24 ?_
  refine r_cI (pc := 25) (a' := 3) (b' := 67) (As := []) C (c_S_init C.s h) o_S_init (Or.inr (k_35 C.w)) rfl ⟨by decide, by decide, by decide, by decide⟩ rfl rfl (Nat.le_of_ble_eq_true rfl) d_P_init_25 rfl ?_
  intro μ10 h; obtain ⟨f12, h⟩ := h
  refine r_fin (by decide) f12 ?_
  intro μ11 eμ11; replace h := h μ11 eμ11
  obtain ⟨o13, h⟩ := h
  refine r_putUR (pc := 28) (ci := 1) C rfl 2 (by decide) (k_53 C.w) (Or.inr ⟨rfl, hI, rfl⟩) rfl p_OS (Or.inl ⟨_, rfl⟩) o13 d_P_init_28 ?_
  intro μ14 eμ14; replace h := h μ14 eμ14
  refine r_aload_n (pc := 31) C d_P_init_31 rfl 0 rfl ?_
  refine r_new (pc := 32) (ci := 2) (a' := 4) (b' := 70) C rfl (k_33 C.w) x_io2 x_ii2 d_P_init_32 ⟨by decide, by decide⟩ rfl rfl ?_
  intro y15 μ16 ey15 eμ16; replace h := h y15 μ16 ey15 eμ16
  refine r_dupR (pc := 35) C d_P_init_35 ?_
  refine r_cI (pc := 36) (a' := 4) (b' := 70) (As := []) C (c_S_init C.s h) o_S_init (Or.inr (k_35 C.w)) rfl ⟨by decide, by decide, by decide, by decide⟩ rfl rfl (Nat.le_of_ble_eq_true rfl) d_P_init_36 rfl ?_
  intro μ17 h; obtain ⟨f19, h⟩ := h
  refine r_fin (by decide) f19 ?_
  intro μ18 eμ18; replace h := h μ18 eμ18
  obtain ⟨o20, h⟩ := h
  refine r_putUR (pc := 39) (ci := 1) C rfl 3 (by decide) (k_54 C.w) (Or.inr ⟨rfl, hI, rfl⟩) rfl p_OS (Or.inl ⟨_, rfl⟩) o20 d_P_init_39 ?_
  intro μ21 eμ21; replace h := h μ21 eμ21
  refine r_aload_n (pc := 42) C d_P_init_42 rfl 0 rfl ?_
  refine r_iconst (pc := 43) C d_P_init_43 (v := (-1)) (by decide) ?_
  refine r_putUI (pc := 44) (ci := 1) C rfl 4 (by decide) (k_55 C.w) (Or.inl rfl) rfl p_I (ok_t eμ21 o20) d_P_init_44 ?_
  intro μ22 eμ22; replace h := h μ22 eμ22
  exact r_vret (pc := 47) C Q d_P_init_47 (by decide) (by decide) h
theorem c_G_init {l : Launch} (hl : l.stackTraces = false) {G : Gl} {x : Nat} {post : Mem → Prop} {μ : Mem} (h : wG_init x post μ) : Ct l G i_G_init [.inr (.inl (some x))] μ (poV post) noX := by
  refine ct_ofI hl (by decide) (Nat.le_of_ble_eq_true rfl) ?_
  intro K hKl C Q hI
  clear hl hKl
  replace C : Cx K G prog_3_method_1_code "LineCollector$Log" 1 { frames := 1, cells := 3, slots := 384, locals := 20 } := C
  replace Q : Cq K G { frames := 1, cells := 3, slots := 384, locals := 20 } (none) (poV post) noX := Q
  show Rn K G 1 0 [(0, .inr (.inl (some x)))] [] μ 0 0
  unfold wG_init at h
  refine r_aload_n (pc := 0) C d_G_init_0 rfl 0 rfl ?_
  refine r_obj (pc := 1) C (k_72 C.w) (x_objI C.w) (x_objC C.w) d_G_init_1 ⟨by decide, Nat.le_of_ble_eq_true rfl⟩ ?_
  refine r_aload_n (pc := 4) C d_G_init_4 rfl 0 rfl ?_
  refine r_sipush (pc := 5) C d_G_init_5 (v := 128) (by decide) ?_
  refine r_newQ (pc := 8) (M := 128) (a' := 1) (b' := 128) C (k_73 C.w) d_G_init_8 (by decide) (by decide) (by decide) ⟨by decide, by decide⟩ rfl rfl ?_
  intro y1 μ2 ey1 eμ2; replace h := h y1 μ2 ey1 eμ2
  obtain ⟨o3, h⟩ := h
  refine r_putUR (pc := 11) (ci := 3) C rfl 0 (by decide) (k_74 C.w) (Or.inr ⟨rfl, hI, rfl⟩) rfl p_AQ (Or.inr ⟨_, rfl⟩) o3 d_G_init_11 ?_
  intro μ4 eμ4; replace h := h μ4 eμ4
  refine r_aload_n (pc := 14) C d_G_init_14 rfl 0 rfl ?_
  refine r_sipush (pc := 15) C d_G_init_15 (v := 128) (by decide) ?_
  refine r_newI (pc := 18) (M := 128) (a' := 2) (b' := 256) C x_acI d_G_init_18 (by decide) (by decide) (by decide) ⟨by decide, by decide⟩ rfl rfl ?_
  intro y5 μ6 ey5 eμ6; replace h := h y5 μ6 ey5 eμ6
  refine r_putUR (pc := 20) (ci := 3) C rfl 1 (by decide) (k_75 C.w) (Or.inr ⟨rfl, hI, rfl⟩) rfl p_AI (Or.inr ⟨_, rfl⟩) (ok_m eμ6 (ok_t eμ4 o3)) d_G_init_20 ?_
  intro μ7 eμ7; replace h := h μ7 eμ7
  refine r_aload_n (pc := 23) C d_G_init_23 rfl 0 rfl ?_
  refine r_sipush (pc := 24) C d_G_init_24 (v := 128) (by decide) ?_
  refine r_newQ (pc := 27) (M := 128) (a' := 3) (b' := 384) C (k_73 C.w) d_G_init_27 (by decide) (by decide) (by decide) ⟨by decide, by decide⟩ rfl rfl ?_
  intro y8 μ9 ey8 eμ9; replace h := h y8 μ9 ey8 eμ9
  refine r_putUR (pc := 30) (ci := 3) C rfl 2 (by decide) (k_76 C.w) (Or.inr ⟨rfl, hI, rfl⟩) rfl p_AQ (Or.inr ⟨_, rfl⟩) (ok_m eμ9 (ok_t eμ7 (ok_m eμ6 (ok_t eμ4 o3)))) d_G_init_30 ?_
  intro μ10 eμ10; replace h := h μ10 eμ10
  exact r_vret (pc := 33) C Q d_G_init_33 (by decide) (by decide) h
theorem c_W_init {l : Launch} (hl : l.stackTraces = false) {G : Gl} {x : Nat} {post : Mem → Prop} {μ : Mem} (h : wW_init x post μ) : Ct l G i_W_init [.inr (.inl (some x))] μ (poV post) noX := by
  refine ct_ofI hl (by decide) (Nat.le_of_ble_eq_true rfl) ?_
  intro K hKl C Q hI
  clear hl hKl
  replace C : Cx K G prog_5_method_1_code "LineCollector$Row" 1 { frames := 1, cells := 1, slots := 262, locals := 20 } := C
  replace Q : Cq K G { frames := 1, cells := 1, slots := 262, locals := 20 } (none) (poV post) noX := Q
  show Rn K G 1 0 [(0, .inr (.inl (some x)))] [] μ 0 0
  unfold wW_init at h
  refine r_aload_n (pc := 0) C d_W_init_0 rfl 0 rfl ?_
  refine r_obj (pc := 1) C (k_93 C.w) (x_objI C.w) (x_objC C.w) d_W_init_1 ⟨by decide, Nat.le_of_ble_eq_true rfl⟩ ?_
  refine r_aload_n (pc := 4) C d_W_init_4 rfl 0 rfl ?_
  refine r_sipush (pc := 5) C d_W_init_5 (v := 262) (by decide) ?_
  refine r_newQ (pc := 8) (M := 262) (a' := 1) (b' := 262) C (k_94 C.w) d_W_init_8 (by decide) (by decide) (by decide) ⟨by decide, by decide⟩ rfl rfl ?_
  intro y1 μ2 ey1 eμ2; replace h := h y1 μ2 ey1 eμ2
  obtain ⟨o3, h⟩ := h
  refine r_putUR (pc := 11) (ci := 4) C rfl 0 (by decide) (k_95 C.w) (Or.inr ⟨rfl, hI, rfl⟩) rfl p_AQ (Or.inr ⟨_, rfl⟩) o3 d_W_init_11 ?_
  intro μ4 eμ4; replace h := h μ4 eμ4
  exact r_vret (pc := 14) C Q d_W_init_14 (by decide) (by decide) h
theorem c_C_init {l : Launch} (hl : l.stackTraces = false) {G : Gl} {x : Nat} {post : Mem → Prop} {μ : Mem} (h : wC_init x post μ) : Ct l G i_C_init [.inr (.inl (some x))] μ (poV post) noX := by
  refine ct_ofI hl (by decide) (Nat.le_of_ble_eq_true rfl) ?_
  intro K hKl C Q hI
  clear hl hKl
  replace C : Cx K G prog_1_method_1_code "LineCollector" 1 { frames := 3, cells := 16, slots := 1133, locals := 60 } := C
  replace Q : Cq K G { frames := 3, cells := 16, slots := 1133, locals := 60 } (none) (poV post) noX := Q
  show Rn K G 1 0 [(0, .inr (.inl (some x)))] [] μ 0 0
  unfold wC_init at h
  refine r_aload_n (pc := 0) C d_C_init_0 rfl 0 rfl ?_
  refine r_obj (pc := 1) C (k_22 C.w) (x_objI C.w) (x_objC C.w) d_C_init_1 ⟨by decide, Nat.le_of_ble_eq_true rfl⟩ ?_
  refine r_aload_n (pc := 4) C d_C_init_4 rfl 0 rfl ?_
  refine r_bipush (pc := 5) C d_C_init_5 (v := 6) (by decide) ?_
  refine r_newQ (pc := 7) (M := 6) (a' := 1) (b' := 6) C (k_25 C.w) d_C_init_7 (by decide) (by decide) (by decide) ⟨by decide, by decide⟩ rfl rfl ?_
  intro y1 μ2 ey1 eμ2; replace h := h y1 μ2 ey1 eμ2
  obtain ⟨o3, h⟩ := h
  refine r_putUR (pc := 10) (ci := 0) C rfl 0 (by decide) (k_106 C.w) (Or.inr ⟨rfl, hI, rfl⟩) rfl p_AQ (Or.inr ⟨_, rfl⟩) o3 d_C_init_10 ?_
  intro μ4 eμ4; replace h := h μ4 eμ4
  refine r_aload_n (pc := 13) C d_C_init_13 rfl 0 rfl ?_
  refine r_bipush (pc := 14) C d_C_init_14 (v := 6) (by decide) ?_
  refine r_newQ (pc := 16) (M := 6) (a' := 2) (b' := 12) C (k_25 C.w) d_C_init_16 (by decide) (by decide) (by decide) ⟨by decide, by decide⟩ rfl rfl ?_
  intro y5 μ6 ey5 eμ6; replace h := h y5 μ6 ey5 eμ6
  refine r_putUR (pc := 19) (ci := 0) C rfl 1 (by decide) (k_107 C.w) (Or.inr ⟨rfl, hI, rfl⟩) rfl p_AQ (Or.inr ⟨_, rfl⟩) (ok_m eμ6 (ok_t eμ4 o3)) d_C_init_19 ?_
  intro μ7 eμ7; replace h := h μ7 eμ7
  refine r_aload_n (pc := 22) C d_C_init_22 rfl 0 rfl ?_
  refine r_sipush (pc := 23) C d_C_init_23 (v := 128) (by decide) ?_
  refine r_newQ (pc := 26) (M := 128) (a' := 3) (b' := 140) C (k_25 C.w) d_C_init_26 (by decide) (by decide) (by decide) ⟨by decide, by decide⟩ rfl rfl ?_
  intro y8 μ9 ey8 eμ9; replace h := h y8 μ9 ey8 eμ9
  refine r_putUR (pc := 29) (ci := 0) C rfl 2 (by decide) (k_108 C.w) (Or.inr ⟨rfl, hI, rfl⟩) rfl p_AQ (Or.inr ⟨_, rfl⟩) (ok_m eμ9 (ok_t eμ7 (ok_m eμ6 (ok_t eμ4 o3)))) d_C_init_29 ?_
  intro μ10 eμ10; replace h := h μ10 eμ10
  refine r_aload_n (pc := 32) C d_C_init_32 rfl 0 rfl ?_
  refine r_new (pc := 33) (ci := 1) (a' := 4) (b' := 145) C rfl (k_27 C.w) x_io1 x_ii1 d_C_init_33 ⟨by decide, by decide⟩ rfl rfl ?_
  intro y11 μ12 ey11 eμ12; replace h := h y11 μ12 ey11 eμ12
  refine r_dupR (pc := 36) C d_C_init_36 ?_
  refine r_cI (pc := 37) (a' := 8) (b' := 215) (As := []) C (c_P_init C.s h) o_P_init (Or.inr (k_29 C.w)) rfl ⟨by decide, by decide, by decide, by decide⟩ rfl rfl (Nat.le_of_ble_eq_true rfl) d_C_init_37 rfl ?_
  intro μ13 h; obtain ⟨f15, h⟩ := h
  refine r_fin (by decide) f15 ?_
  intro μ14 eμ14; replace h := h μ14 eμ14
  obtain ⟨o16, h⟩ := h
  refine r_putUR (pc := 40) (ci := 0) C rfl 3 (by decide) (k_109 C.w) (Or.inr ⟨rfl, hI, rfl⟩) rfl p_OP (Or.inl ⟨_, rfl⟩) o16 d_C_init_40 ?_
  intro μ17 eμ17; replace h := h μ17 eμ17
  refine r_aload_n (pc := 43) C d_C_init_43 rfl 0 rfl ?_
  refine r_new (pc := 44) (ci := 3) (a' := 9) (b' := 219) C rfl (k_67 C.w) x_io3 x_ii3 d_C_init_44 ⟨by decide, by decide⟩ rfl rfl ?_
  intro y18 μ19 ey18 eμ19; replace h := h y18 μ19 ey18 eμ19
  refine r_dupR (pc := 47) C d_C_init_47 ?_
  refine r_cI (pc := 48) (a' := 12) (b' := 603) (As := []) C (c_G_init C.s h) o_G_init (Or.inr (k_69 C.w)) rfl ⟨by decide, by decide, by decide, by decide⟩ rfl rfl (Nat.le_of_ble_eq_true rfl) d_C_init_48 rfl ?_
  intro μ20 h; obtain ⟨f22, h⟩ := h
  refine r_fin (by decide) f22 ?_
  intro μ21 eμ21; replace h := h μ21 eμ21
  obtain ⟨o23, h⟩ := h
  refine r_putUR (pc := 51) (ci := 0) C rfl 4 (by decide) (k_110 C.w) (Or.inr ⟨rfl, hI, rfl⟩) rfl p_OG (Or.inl ⟨_, rfl⟩) o23 d_C_init_51 ?_
  intro μ24 eμ24; replace h := h μ24 eμ24
  refine r_aload_n (pc := 54) C d_C_init_54 rfl 0 rfl ?_
  refine r_new (pc := 55) (ci := 4) (a' := 13) (b' := 606) C rfl (k_88 C.w) x_io4 x_ii4 d_C_init_55 ⟨by decide, by decide⟩ rfl rfl ?_
  intro y25 μ26 ey25 eμ26; replace h := h y25 μ26 ey25 eμ26
  refine r_dupR (pc := 58) C d_C_init_58 ?_
  refine r_cI (pc := 59) (a' := 14) (b' := 868) (As := []) C (c_W_init C.s h) o_W_init (Or.inr (k_90 C.w)) rfl ⟨by decide, by decide, by decide, by decide⟩ rfl rfl (Nat.le_of_ble_eq_true rfl) d_C_init_59 rfl ?_
  intro μ27 h; obtain ⟨f29, h⟩ := h
  refine r_fin (by decide) f29 ?_
  intro μ28 eμ28; replace h := h μ28 eμ28
  obtain ⟨o30, h⟩ := h
  refine r_putUR (pc := 62) (ci := 0) C rfl 5 (by decide) (k_111 C.w) (Or.inr ⟨rfl, hI, rfl⟩) rfl p_OW (Or.inl ⟨_, rfl⟩) o30 d_C_init_62 ?_
  intro μ31 eμ31; replace h := h μ31 eμ31
  refine r_aload_n (pc := 65) C d_C_init_65 rfl 0 rfl ?_
  refine r_new (pc := 66) (ci := 4) (a' := 15) (b' := 871) C rfl (k_88 C.w) x_io4 x_ii4 d_C_init_66 ⟨by decide, by decide⟩ rfl rfl ?_
  intro y32 μ33 ey32 eμ33; replace h := h y32 μ33 ey32 eμ33
  refine r_dupR (pc := 69) C d_C_init_69 ?_
  refine r_cI (pc := 70) (a' := 16) (b' := 1133) (As := []) C (c_W_init C.s h) o_W_init (Or.inr (k_90 C.w)) rfl ⟨by decide, by decide, by decide, by decide⟩ rfl rfl (Nat.le_of_ble_eq_true rfl) d_C_init_70 rfl ?_
  intro μ34 h; obtain ⟨f36, h⟩ := h
  refine r_fin (by decide) f36 ?_
  intro μ35 eμ35; replace h := h μ35 eμ35
  obtain ⟨o37, h⟩ := h
  refine r_putUR (pc := 73) (ci := 0) C rfl 6 (by decide) (k_112 C.w) (Or.inr ⟨rfl, hI, rfl⟩) rfl p_OW (Or.inl ⟨_, rfl⟩) o37 d_C_init_73 ?_
  intro μ38 eμ38; replace h := h μ38 eμ38
  exact r_vret (pc := 76) C Q d_C_init_76 (by decide) (by decide) h
theorem c_C_isRoot {l : Launch} (hl : l.stackTraces = false) {G : Gl} (hg : gf G = true) {a1 : Int32} {post : Int32 → Mem → Prop} {μ : Mem} (h : wC_isRoot a1 post μ) : Ct l G i_C_isRoot [.inl a1] μ (poI post) noX := by
  refine ct_of hl (by decide) (Nat.le_of_ble_eq_true rfl) ?_
  intro K hKl C Q hE
  clear hl hKl
  replace C : Cx K G prog_1_method_15_code "LineCollector" 1 { frames := 0, cells := 0, slots := 0, locals := 0 } := C
  replace Q : Cq K G { frames := 0, cells := 0, slots := 0, locals := 0 } (some .boolean) (poI post) noX := Q
  show Rn K G 1 0 [(0, .inl a1)] [] μ 0 0
  unfold wC_isRoot at h
  refine r_iload_n (pc := 0) C d_C_isRoot_0 rfl 0 rfl ?_
  refine r_if_lt (tgt := 14) (pc := 1) C d_C_isRoot_1 (by decide) ?_ ?_
  · intro hc; replace h := h.1 hc
    refine r_iconst (pc := 14) C d_C_isRoot_14 (v := 0) (by decide) ?_
    exact r_zret (pc := 15) C Q (Or.inl rfl) d_C_isRoot_15 (by decide) (by decide) h
  · intro hc; replace h := h.2 hc
    refine r_iload_n (pc := 4) C d_C_isRoot_4 rfl 0 rfl ?_
    refine r_bipush (pc := 5) C d_C_isRoot_5 (v := 6) (by decide) ?_
    refine r_icmp_ge (tgt := 14) (pc := 7) C d_C_isRoot_7 (by decide) ?_ ?_
    · intro hc; replace h := h.1 hc
      refine r_iconst (pc := 14) C d_C_isRoot_14 (v := 0) (by decide) ?_
      exact r_zret (pc := 15) C Q (Or.inl rfl) d_C_isRoot_15 (by decide) (by decide) h
    · intro hc; replace h := h.2 hc
      refine r_iconst (pc := 10) C d_C_isRoot_10 (v := 1) (by decide) ?_
      refine r_goto (tgt := 15) (pc := 11) C d_C_isRoot_11 (by decide) ?_
      exact r_zret (pc := 15) C Q (Or.inr rfl) d_C_isRoot_15 (by decide) (by decide) h
theorem c_S_has {l : Launch} (hl : l.stackTraces = false) {G : Gl} (hg : gf G = true) {x : Nat} {a1 : Int32} {post : Int32 → Mem → Prop} {μ : Mem} (h : wS_has x a1 post μ) : Ct l G i_S_has [.inr (.inl (some x)), .inl a1] μ (poI post) noX := by
  refine ct_of hl (by decide) (Nat.le_of_ble_eq_true rfl) ?_
  intro K hKl C Q hE
  clear hl hKl
  replace C : Cx K G prog_6_method_3_code "LineCollector$Span" 2 { frames := 0, cells := 0, slots := 0, locals := 0 } := C
  replace Q : Cq K G { frames := 0, cells := 0, slots := 0, locals := 0 } (some .boolean) (poI post) noX := Q
  show Rn K G 2 0 [(0, .inr (.inl (some x))), (1, .inl a1)] [] μ 0 0
  unfold wS_has at h
  refine r_aload_n (pc := 0) C d_S_has_0 rfl 0 rfl ?_
  obtain ⟨o1, h⟩ := h
  refine r_getI (pc := 1) (ci := 2) C rfl 2 (by decide) (k_41 C.w) rfl (ok_O o1) d_S_has_1 ?_
  refine r_aload_n (pc := 4) C d_S_has_4 rfl 0 rfl ?_
  refine r_getI (pc := 5) (ci := 2) C rfl 1 (by decide) (k_40 C.w) rfl (ok_O o1) d_S_has_5 ?_
  refine r_isub (pc := 8) C d_S_has_8 ?_
  refine r_iload_n (pc := 9) C d_S_has_9 rfl 1 rfl ?_
  refine r_icmp_lt (tgt := 17) (pc := 10) C d_S_has_10 (by decide) ?_ ?_
  · intro hc; replace h := h.1 hc
    refine r_iconst (pc := 17) C d_S_has_17 (v := 0) (by decide) ?_
    exact r_zret (pc := 18) C Q (Or.inl rfl) d_S_has_18 (by decide) (by decide) h
  · intro hc; replace h := h.2 hc
    refine r_iconst (pc := 13) C d_S_has_13 (v := 1) (by decide) ?_
    refine r_goto (tgt := 18) (pc := 14) C d_S_has_14 (by decide) ?_
    exact r_zret (pc := 18) C Q (Or.inr rfl) d_S_has_18 (by decide) (by decide) h
theorem c_S_take {l : Launch} (hl : l.stackTraces = false) {G : Gl} (hg : gf G = true) {x : Nat} {a1 : Int32} {post : Int32 → Mem → Prop} {μ : Mem} (h : wS_take x a1 post μ) : Ct l G i_S_take [.inr (.inl (some x)), .inl a1] μ (poI post) noX := by
  refine ct_of hl (by decide) (Nat.le_of_ble_eq_true rfl) ?_
  intro K hKl C Q hE
  clear hl hKl
  replace C : Cx K G prog_6_method_4_code "LineCollector$Span" 3 { frames := 0, cells := 0, slots := 0, locals := 0 } := C
  replace Q : Cq K G { frames := 0, cells := 0, slots := 0, locals := 0 } (some .int) (poI post) noX := Q
  show Rn K G 3 0 [(0, .inr (.inl (some x))), (1, .inl a1)] [] μ 0 0
  unfold wS_take at h
  refine r_aload_n (pc := 0) C d_S_take_0 rfl 0 rfl ?_
  obtain ⟨o1, h⟩ := h
  refine r_getI (pc := 1) (ci := 2) C rfl 1 (by decide) (k_40 C.w) rfl (ok_O o1) d_S_take_1 ?_
  refine r_istore_n (pc := 4) (lv' := [(0, .inr (.inl (some x))), (1, .inl a1)]) C d_S_take_4 rfl (by decide) rfl ?_
  refine r_aload_n (pc := 5) C d_S_take_5 rfl 1 rfl ?_
  refine r_dupR (pc := 6) C d_S_take_6 ?_
  refine r_getI (pc := 7) (ci := 2) C rfl 1 (by decide) (k_40 C.w) rfl (ok_O o1) d_S_take_7 ?_
  refine r_iload_n (pc := 10) C d_S_take_10 rfl 2 rfl ?_
  refine r_iadd (pc := 11) C d_S_take_11 ?_
  refine r_putI (pc := 12) (ci := 2) C rfl 1 (by decide) (k_40 C.w) rfl rfl p_I (ok_O o1) d_S_take_12 ?_
  intro μ2 eμ2; replace h := h μ2 eμ2
  refine r_iload_n (pc := 15) C d_S_take_15 rfl 0 rfl ?_
  exact r_iret (pc := 16) C Q d_S_take_16 (by decide) (by decide) h
theorem c_S_covers {l : Launch} (hl : l.stackTraces = false) {G : Gl} (hg : gf G = true) {x : Nat} {a1 : Int32} {post : Int32 → Mem → Prop} {μ : Mem} (h : wS_covers x a1 post μ) : Ct l G i_S_covers [.inr (.inl (some x)), .inl a1] μ (poI post) noX := by
  refine ct_of hl (by decide) (Nat.le_of_ble_eq_true rfl) ?_
  intro K hKl C Q hE
  clear hl hKl
  replace C : Cx K G prog_6_method_5_code "LineCollector$Span" 2 { frames := 0, cells := 0, slots := 0, locals := 0 } := C
  replace Q : Cq K G { frames := 0, cells := 0, slots := 0, locals := 0 } (some .boolean) (poI post) noX := Q
  show Rn K G 2 0 [(0, .inr (.inl (some x))), (1, .inl a1)] [] μ 0 0
  unfold wS_covers at h
  refine r_iload_n (pc := 0) C d_S_covers_0 rfl 1 rfl ?_
  refine r_iconst (pc := 1) C d_S_covers_1 (v := 4) (by decide) ?_
  refine r_imul (pc := 2) C d_S_covers_2 ?_
  refine r_aload_n (pc := 3) C d_S_covers_3 rfl 0 rfl ?_
  obtain ⟨o1, h⟩ := h
  refine r_getI (pc := 4) (ci := 2) C rfl 0 (by decide) (k_39 C.w) rfl (ok_O o1) d_S_covers_4 ?_
  refine r_icmp_lt (tgt := 24) (pc := 7) C d_S_covers_7 (by decide) ?_ ?_
  · intro hc; replace h := h.1 hc
    refine r_iconst (pc := 24) C d_S_covers_24 (v := 0) (by decide) ?_
    exact r_zret (pc := 25) C Q (Or.inl rfl) d_S_covers_25 (by decide) (by decide) h
  · intro hc; replace h := h.2 hc
    refine r_iload_n (pc := 10) C d_S_covers_10 rfl 1 rfl ?_
    refine r_iconst (pc := 11) C d_S_covers_11 (v := 4) (by decide) ?_
    refine r_imul (pc := 12) C d_S_covers_12 ?_
    refine r_aload_n (pc := 13) C d_S_covers_13 rfl 0 rfl ?_
    refine r_getI (pc := 14) (ci := 2) C rfl 2 (by decide) (k_41 C.w) rfl (ok_O o1) d_S_covers_14 ?_
    refine r_icmp_ge (tgt := 24) (pc := 17) C d_S_covers_17 (by decide) ?_ ?_
    · intro hc; replace h := h.1 hc
      refine r_iconst (pc := 24) C d_S_covers_24 (v := 0) (by decide) ?_
      exact r_zret (pc := 25) C Q (Or.inl rfl) d_S_covers_25 (by decide) (by decide) h
    · intro hc; replace h := h.2 hc
      refine r_iconst (pc := 20) C d_S_covers_20 (v := 1) (by decide) ?_
      refine r_goto (tgt := 25) (pc := 21) C d_S_covers_21 (by decide) ?_
      exact r_zret (pc := 25) C Q (Or.inr rfl) d_S_covers_25 (by decide) (by decide) h
theorem c_P_isFree {l : Launch} (hl : l.stackTraces = false) {G : Gl} (hg : gf G = true) {a1 : Int32} {post : Int32 → Mem → Prop} {μ : Mem} (h : wP_isFree a1 post μ) : Ct l G i_P_isFree [.inr (.inl (some 4)), .inl a1] μ (poI post) noX := by
  refine ct_of hl (by decide) (Nat.le_of_ble_eq_true rfl) ?_
  intro K hKl C Q hE
  clear hl hKl
  replace C : Cx K G prog_4_method_3_code "LineCollector$Places" 2 { frames := 1, cells := 0, slots := 0, locals := 21 } := C
  replace Q : Cq K G { frames := 1, cells := 0, slots := 0, locals := 21 } (some .boolean) (poI post) noX := Q
  show Rn K G 2 0 [(0, .inr (.inl (some 4))), (1, .inl a1)] [] μ 0 0
  unfold wP_isFree at h
  refine r_aload_n (pc := 0) C d_P_isFree_0 rfl 0 rfl ?_
  refine r_getR (pc := 1) (ci := 1) C rfl 0 (by decide) (k_51 C.w) rfl (lay_O hg rfl) d_P_isFree_1 ?_
  refine r_iload_n (pc := 4) C d_P_isFree_4 rfl 1 rfl ?_
  obtain ⟨b1, h⟩ := h
  refine r_iald (pc := 5) C (lay_A hg rfl) b1 d_P_isFree_5 ?_
  refine r_if_ne (tgt := 55) (pc := 6) C d_P_isFree_6 (by decide) ?_ ?_
  · intro hc; replace h := h.2 hc
    refine r_iconst (pc := 55) C d_P_isFree_55 (v := 0) (by decide) ?_
    exact r_zret (pc := 56) C Q (Or.inl rfl) d_P_isFree_56 (by decide) (by decide) h
  · intro hc; replace h := h.1 hc
    refine r_aload_n (pc := 9) C d_P_isFree_9 rfl 0 rfl ?_
    refine r_getR (pc := 10) (ci := 1) C rfl 1 (by decide) (k_52 C.w) rfl (lay_O hg rfl) d_P_isFree_10 ?_
    refine r_iload_n (pc := 13) C d_P_isFree_13 rfl 1 rfl ?_
    refine r_zald (pc := 14) C (lay_A hg rfl) b1 d_P_isFree_14 ?_
    refine r_if_ne (tgt := 55) (pc := 15) C d_P_isFree_15 (by decide) ?_ ?_
    · intro hc; replace h := h.2 hc
      refine r_iconst (pc := 55) C d_P_isFree_55 (v := 0) (by decide) ?_
      exact r_zret (pc := 56) C Q (Or.inl rfl) d_P_isFree_56 (by decide) (by decide) h
    · intro hc; replace h := h.1 hc
      refine r_iload_n (pc := 18) C d_P_isFree_18 rfl 1 rfl ?_
      refine r_bipush (pc := 19) C d_P_isFree_19 (v := 8) (by decide) ?_
      refine r_idiv (pc := 21) C d_P_isFree_21 (by decide) ?_
      refine r_aload_n (pc := 22) C d_P_isFree_22 rfl 0 rfl ?_
      refine r_getI (pc := 23) (ci := 1) C rfl 4 (by decide) (k_55 C.w) rfl (lay_O hg rfl) d_P_isFree_23 ?_
      refine r_icmp_eq (tgt := 55) (pc := 26) C d_P_isFree_26 (by decide) ?_ ?_
      · intro hc; replace h := h.1 hc
        refine r_iconst (pc := 55) C d_P_isFree_55 (v := 0) (by decide) ?_
        exact r_zret (pc := 56) C Q (Or.inl rfl) d_P_isFree_56 (by decide) (by decide) h
      · intro hc; replace h := h.2 hc
        refine r_aload_n (pc := 29) C d_P_isFree_29 rfl 0 rfl ?_
        refine r_getR (pc := 30) (ci := 1) C rfl 2 (by decide) (k_53 C.w) rfl (lay_O hg rfl) d_P_isFree_30 ?_
        refine r_iload_n (pc := 33) C d_P_isFree_33 rfl 1 rfl ?_
        refine r_cVi (pc := 34) (a' := 0) (b' := 0) (As := [.inl a1]) (ci := 2) C (c_S_covers C.s hg h) o_S_covers rfl (lay_O hg rfl) (k_241 C.w) rfl ⟨by decide, by decide, by decide, by decide⟩ rfl rfl (Nat.le_of_ble_eq_true rfl) d_P_isFree_34 rfl ?_
        intro r3 μ2 h
        refine r_if_ne (tgt := 55) (pc := 37) C d_P_isFree_37 (by decide) ?_ ?_
        · intro hc; replace h := h.2 hc
          refine r_iconst (pc := 55) C d_P_isFree_55 (v := 0) (by decide) ?_
          exact r_zret (pc := 56) C Q (Or.inl rfl) d_P_isFree_56 (by decide) (by decide) h
        · intro hc; replace h := h.1 hc
          refine r_aload_n (pc := 40) C d_P_isFree_40 rfl 0 rfl ?_
          refine r_getR (pc := 41) (ci := 1) C rfl 3 (by decide) (k_54 C.w) rfl (lay_O hg rfl) d_P_isFree_41 ?_
          refine r_iload_n (pc := 44) C d_P_isFree_44 rfl 1 rfl ?_
          refine r_cVi (pc := 45) (a' := 0) (b' := 0) (As := [.inl a1]) (ci := 2) C (c_S_covers C.s hg h) o_S_covers rfl (lay_O hg rfl) (k_241 C.w) rfl ⟨by decide, by decide, by decide, by decide⟩ rfl rfl (Nat.le_of_ble_eq_true rfl) d_P_isFree_45 rfl ?_
          intro r5 μ4 h
          refine r_if_ne (tgt := 55) (pc := 48) C d_P_isFree_48 (by decide) ?_ ?_
          · intro hc; replace h := h.2 hc
            refine r_iconst (pc := 55) C d_P_isFree_55 (v := 0) (by decide) ?_
            exact r_zret (pc := 56) C Q (Or.inl rfl) d_P_isFree_56 (by decide) (by decide) h
          · intro hc; replace h := h.1 hc
            refine r_iconst (pc := 51) C d_P_isFree_51 (v := 1) (by decide) ?_
            refine r_goto (tgt := 56) (pc := 52) C d_P_isFree_52 (by decide) ?_
            exact r_zret (pc := 56) C Q (Or.inr rfl) d_P_isFree_56 (by decide) (by decide) h
theorem c_S_open {l : Launch} (hl : l.stackTraces = false) {G : Gl} (hg : gf G = true) {x : Nat} {a1 : Int32} {a2 : Int32} {post : Mem → Prop} {μ : Mem} (h : wS_open x a1 a2 post μ) : Ct l G i_S_open [.inr (.inl (some x)), .inl a1, .inl a2] μ (poV post) noX := by
  refine ct_of hl (by decide) (Nat.le_of_ble_eq_true rfl) ?_
  intro K hKl C Q hE
  clear hl hKl
  replace C : Cx K G prog_6_method_2_code "LineCollector$Span" 3 { frames := 0, cells := 0, slots := 0, locals := 0 } := C
  replace Q : Cq K G { frames := 0, cells := 0, slots := 0, locals := 0 } (none) (poV post) noX := Q
  show Rn K G 3 0 [(0, .inr (.inl (some x))), (1, .inl a1), (2, .inl a2)] [] μ 0 0
  unfold wS_open at h
  refine r_aload_n (pc := 0) C d_S_open_0 rfl 0 rfl ?_
  refine r_iload_n (pc := 1) C d_S_open_1 rfl 1 rfl ?_
  refine r_iconst (pc := 2) C d_S_open_2 (v := 4) (by decide) ?_
  refine r_imul (pc := 3) C d_S_open_3 ?_
  obtain ⟨o1, h⟩ := h
  refine r_putI (pc := 4) (ci := 2) C rfl 0 (by decide) (k_39 C.w) rfl rfl p_I (ok_O o1) d_S_open_4 ?_
  intro μ2 eμ2; replace h := h μ2 eμ2
  refine r_aload_n (pc := 7) C d_S_open_7 rfl 0 rfl ?_
  refine r_aload_n (pc := 8) C d_S_open_8 rfl 0 rfl ?_
  refine r_getI (pc := 9) (ci := 2) C rfl 0 (by decide) (k_39 C.w) rfl (ok_O (ok_s eμ2 o1)) d_S_open_9 ?_
  refine r_putI (pc := 12) (ci := 2) C rfl 1 (by decide) (k_40 C.w) rfl rfl p_I (ok_O (ok_s eμ2 o1)) d_S_open_12 ?_
  intro μ3 eμ3; replace h := h μ3 eμ3
  refine r_aload_n (pc := 15) C d_S_open_15 rfl 0 rfl ?_
  refine r_iload_n (pc := 16) C d_S_open_16 rfl 2 rfl ?_
  refine r_iconst (pc := 17) C d_S_open_17 (v := 4) (by decide) ?_
  refine r_imul (pc := 18) C d_S_open_18 ?_
  refine r_putI (pc := 19) (ci := 2) C rfl 2 (by decide) (k_41 C.w) rfl rfl p_I (ok_O (ok_s eμ3 (ok_s eμ2 o1))) d_S_open_19 ?_
  intro μ4 eμ4; replace h := h μ4 eμ4
  exact r_vret (pc := 22) C Q d_S_open_22 (by decide) (by decide) h
theorem c_P_openOverflow {l : Launch} (hl : l.stackTraces = false) {G : Gl} (hg : gf G = true) {post : Int32 → Mem → Prop} {μ : Mem} (h : wP_openOverflow post μ) : Ct l G i_P_openOverflow [.inr (.inl (some 4))] μ (poI post) noX := by
  refine ct_of hl (by decide) (Nat.le_of_ble_eq_true rfl) ?_
  intro K hKl C Q hE
  clear hl hKl
  replace C : Cx K G prog_4_method_12_code "LineCollector$Places" 4 { frames := 2, cells := 0, slots := 0, locals := 42 } := C
  replace Q : Cq K G { frames := 2, cells := 0, slots := 0, locals := 42 } (some .boolean) (poI post) noX := Q
  show Rn K G 4 0 [(0, .inr (.inl (some 4)))] [] μ 0 0
  have L_14 : ∀ (l1 : Int32) (k : Int32 → Int32 → Mem → Prop), (∀ (v2 : Int32) (v3 : Int32) (μ : Mem), k v2 v3 μ → Rn K G 4 41 [(0, .inr (.inl (some 4))), (1, .inl l1), (2, .inl v2)] [] μ 0 0) → ∀ (n : Nat) (l2 : Int32) (l3 : Int32) (μ : Mem), wP_openOverflow_14 l1 k n l2 l3 μ → Rn K G 4 14 [(0, .inr (.inl (some 4))), (1, .inl l1), (2, .inl l2), (3, .inl l3)] [] μ 0 0 := by
    intro l1 k hk n
    induction n with
    | zero => intro l2 l3 μ h; exact h.elim
    | succ n ih =>
      intro l2 l3 μ h
      unfold wP_openOverflow_14 at h
      refine r_iload_n (pc := 14) C d_P_openOverflow_14 rfl 3 rfl ?_
      refine r_iload_n (pc := 15) C d_P_openOverflow_15 rfl 1 rfl ?_
      refine r_iconst (pc := 16) C d_P_openOverflow_16 (v := 1) (by decide) ?_
      refine r_iadd (pc := 17) C d_P_openOverflow_17 ?_
      refine r_bipush (pc := 18) C d_P_openOverflow_18 (v := 8) (by decide) ?_
      refine r_imul (pc := 20) C d_P_openOverflow_20 ?_
      refine r_icmp_ge (tgt := 41) (pc := 21) C d_P_openOverflow_21 (by decide) ?_ ?_
      · intro hc; replace h := h.1 hc
        refine r_sub [0, 1, 2] rfl ?_
        exact hk l2 l3 μ h
      · intro hc; replace h := h.2 hc
        refine r_aload_n (pc := 24) C d_P_openOverflow_24 rfl 0 rfl ?_
        refine r_iload_n (pc := 25) C d_P_openOverflow_25 rfl 3 rfl ?_
        refine r_cVi (pc := 26) (a' := 0) (b' := 0) (As := [.inl l3]) (ci := 1) C (c_P_isFree C.s hg h) o_P_isFree rfl (lay_O hg rfl) (k_237 C.w) rfl ⟨by decide, by decide, by decide, by decide⟩ rfl rfl (Nat.le_of_ble_eq_true rfl) d_P_openOverflow_26 rfl ?_
        intro r2 μ1 h
        refine r_if_eq (tgt := 35) (pc := 29) C d_P_openOverflow_29 (by decide) ?_ ?_
        · intro hc; replace h := h.1 hc
          refine r_iinc (pc := 35) (v := 1) (lv' := [(0, .inr (.inl (some 4))), (1, .inl l1), (2, .inl l2)]) C d_P_openOverflow_35 3 rfl (by decide) (by decide) rfl ?_
          refine r_goto (tgt := 14) (pc := 38) C d_P_openOverflow_38 (by decide) ?_
          refine r_sub [1, 2, 3, 0] rfl ?_
          exact ih l2 (l3 + 1) μ1 h
        · intro hc; replace h := h.2 hc
          refine r_iinc (pc := 32) (v := 1) (lv' := [(0, .inr (.inl (some 4))), (1, .inl l1), (3, .inl l3)]) C d_P_openOverflow_32 2 rfl (by decide) (by decide) rfl ?_
          refine r_iinc (pc := 35) (v := 1) (lv' := [(2, .inl (l2 + 1)), (0, .inr (.inl (some 4))), (1, .inl l1)]) C d_P_openOverflow_35 3 rfl (by decide) (by decide) rfl ?_
          refine r_goto (tgt := 14) (pc := 38) C d_P_openOverflow_38 (by decide) ?_
          refine r_sub [2, 3, 1, 0] rfl ?_
          exact ih (l2 + 1) (l3 + 1) μ1 h
  have L_2 : ∀ (k : Int32 → Mem → Prop), (∀ (v1 : Int32) (μ : Mem), k v1 μ → Rn K G 4 72 [] [] μ 0 0) → ∀ (n : Nat) (l1 : Int32) (μ : Mem), wP_openOverflow_2 k post n l1 μ → Rn K G 4 2 [(0, .inr (.inl (some 4))), (1, .inl l1)] [] μ 0 0 := by
    intro k hk n
    induction n with
    | zero => intro l1 μ h; exact h.elim
    | succ n ih =>
      intro l1 μ h
      unfold wP_openOverflow_2 at h
      refine r_iload_n (pc := 2) C d_P_openOverflow_2 rfl 1 rfl ?_
      refine r_iconst (pc := 3) C d_P_openOverflow_3 (v := 4) (by decide) ?_
      refine r_icmp_ge (tgt := 72) (pc := 4) C d_P_openOverflow_4 (by decide) ?_ ?_
      · intro hc; replace h := h.1 hc
        refine r_sub [] rfl ?_
        exact hk l1 μ h
      · intro hc; replace h := h.2 hc
        refine r_iconst (pc := 7) C d_P_openOverflow_7 (v := 0) (by decide) ?_
        refine r_istore_n (pc := 8) (lv' := [(0, .inr (.inl (some 4))), (1, .inl l1)]) C d_P_openOverflow_8 rfl (by decide) rfl ?_
        refine r_iload_n (pc := 9) C d_P_openOverflow_9 rfl 2 rfl ?_
        refine r_bipush (pc := 10) C d_P_openOverflow_10 (v := 8) (by decide) ?_
        refine r_imul (pc := 12) C d_P_openOverflow_12 ?_
        refine r_istore_n (pc := 13) (lv' := [(2, .inl 0), (0, .inr (.inl (some 4))), (1, .inl l1)]) C d_P_openOverflow_13 rfl (by decide) rfl ?_
        obtain ⟨n7, h⟩ := h
        refine r_sub [2, 3, 1, 0] rfl ?_
        refine L_14 l1 _ ?_ n7 0 (l1 * 8) μ h
        intro v4 v5 μ3 h
        refine r_iload_n (pc := 41) C d_P_openOverflow_41 rfl 2 rfl ?_
        refine r_bipush (pc := 42) C d_P_openOverflow_42 (v := 8) (by decide) ?_
        refine r_icmp_ne (tgt := 66) (pc := 44) C d_P_openOverflow_44 (by decide) ?_ ?_
        · intro hc; replace h := h.2 hc
          refine r_iinc (pc := 66) (v := 1) (lv' := [(0, .inr (.inl (some 4))), (2, .inl v4)]) C d_P_openOverflow_66 1 rfl (by decide) (by decide) rfl ?_
          refine r_goto (tgt := 2) (pc := 69) C d_P_openOverflow_69 (by decide) ?_
          refine r_sub [1, 0] rfl ?_
          exact ih (l1 + 1) μ3 h
        · intro hc; replace h := h.1 hc
          refine r_aload_n (pc := 47) C d_P_openOverflow_47 rfl 0 rfl ?_
          refine r_getR (pc := 48) (ci := 1) C rfl 3 (by decide) (k_54 C.w) rfl (lay_O hg rfl) d_P_openOverflow_48 ?_
          refine r_iload_n (pc := 51) C d_P_openOverflow_51 rfl 1 rfl ?_
          refine r_bipush (pc := 52) C d_P_openOverflow_52 (v := 8) (by decide) ?_
          refine r_imul (pc := 54) C d_P_openOverflow_54 ?_
          refine r_iload_n (pc := 55) C d_P_openOverflow_55 rfl 1 rfl ?_
          refine r_iconst (pc := 56) C d_P_openOverflow_56 (v := 1) (by decide) ?_
          refine r_iadd (pc := 57) C d_P_openOverflow_57 ?_
          refine r_bipush (pc := 58) C d_P_openOverflow_58 (v := 8) (by decide) ?_
          refine r_imul (pc := 60) C d_P_openOverflow_60 ?_
          refine r_cVv (pc := 61) (a' := 0) (b' := 0) (As := [.inl (l1 * 8), .inl ((l1 + 1) * 8)]) (ci := 2) C (c_S_open C.s hg h) o_S_open rfl (lay_O hg rfl) (k_185 C.w) rfl ⟨by decide, by decide, by decide, by decide⟩ rfl rfl (Nat.le_of_ble_eq_true rfl) d_P_openOverflow_61 rfl ?_
          intro μ6 h
          refine r_iconst (pc := 64) C d_P_openOverflow_64 (v := 1) (by decide) ?_
          exact r_zret (pc := 65) C Q (Or.inr rfl) d_P_openOverflow_65 (by decide) (by decide) h
  unfold wP_openOverflow at h
  refine r_iconst (pc := 0) C d_P_openOverflow_0 (v := 0) (by decide) ?_
  refine r_istore_n (pc := 1) (lv' := [(0, .inr (.inl (some 4)))]) C d_P_openOverflow_1 rfl (by decide) rfl ?_
  obtain ⟨n10, h⟩ := h
  refine r_sub [1, 0] rfl ?_
  refine L_2 _ ?_ n10 0 μ h
  intro v9 μ8 h
  refine r_iconst (pc := 72) C d_P_openOverflow_72 (v := 0) (by decide) ?_
  exact r_zret (pc := 73) C Q (Or.inl rfl) d_P_openOverflow_73 (by decide) (by decide) h
theorem c_S_endLine {l : Launch} (hl : l.stackTraces = false) {G : Gl} (hg : gf G = true) {x : Nat} {post : Int32 → Mem → Prop} {μ : Mem} (h : wS_endLine x post μ) : Ct l G i_S_endLine [.inr (.inl (some x))] μ (poI post) noX := by
  refine ct_of hl (by decide) (Nat.le_of_ble_eq_true rfl) ?_
  intro K hKl C Q hE
  clear hl hKl
  replace C : Cx K G prog_6_method_6_code "LineCollector$Span" 1 { frames := 0, cells := 0, slots := 0, locals := 0 } := C
  replace Q : Cq K G { frames := 0, cells := 0, slots := 0, locals := 0 } (some .int) (poI post) noX := Q
  show Rn K G 1 0 [(0, .inr (.inl (some x)))] [] μ 0 0
  unfold wS_endLine at h
  refine r_aload_n (pc := 0) C d_S_endLine_0 rfl 0 rfl ?_
  obtain ⟨o1, h⟩ := h
  refine r_getI (pc := 1) (ci := 2) C rfl 2 (by decide) (k_41 C.w) rfl (ok_O o1) d_S_endLine_1 ?_
  refine r_iconst (pc := 4) C d_S_endLine_4 (v := 4) (by decide) ?_
  refine r_idiv (pc := 5) C d_S_endLine_5 (by decide) ?_
  exact r_iret (pc := 6) C Q d_S_endLine_6 (by decide) (by decide) h
theorem c_P_openHole {l : Launch} (hl : l.stackTraces = false) {G : Gl} (hg : gf G = true) {post : Int32 → Mem → Prop} {μ : Mem} (h : wP_openHole post μ) : Ct l G i_P_openHole [.inr (.inl (some 4))] μ (poI post) noX := by
  refine ct_of hl (by decide) (Nat.le_of_ble_eq_true rfl) ?_
  intro K hKl C Q hE
  clear hl hKl
  replace C : Cx K G prog_4_method_11_code "LineCollector$Places" 6 { frames := 2, cells := 0, slots := 0, locals := 42 } := C
  replace Q : Cq K G { frames := 2, cells := 0, slots := 0, locals := 42 } (some .boolean) (poI post) noX := Q
  show Rn K G 6 0 [(0, .inr (.inl (some 4)))] [] μ 0 0
  have L_47 : ∀ (l4 : Int32) (l3 : Int32) (k : Int32 → Mem → Prop), (∀ (v5 : Int32) (μ : Mem), k v5 μ → Rn K G 6 69 [(0, .inr (.inl (some 4))), (3, .inl l3), (5, .inl v5)] [] μ 0 0) → ∀ (n : Nat) (l5 : Int32) (μ : Mem), wP_openHole_47 l4 k n l5 μ → Rn K G 6 47 [(0, .inr (.inl (some 4))), (3, .inl l3), (4, .inl l4), (5, .inl l5)] [] μ 0 0 := by
    intro l4 l3 k hk n
    induction n with
    | zero => intro l5 μ h; exact h.elim
    | succ n ih =>
      intro l5 μ h
      unfold wP_openHole_47 at h
      refine r_iload (pc := 47) C d_P_openHole_47 3 rfl ?_
      refine r_iload (pc := 49) C d_P_openHole_49 2 rfl ?_
      refine r_icmp_ge (tgt := 69) (pc := 51) C d_P_openHole_51 (by decide) ?_ ?_
      · intro hc; replace h := h.1 hc
        refine r_sub [0, 1, 3] rfl ?_
        exact hk l5 μ h
      · intro hc; replace h := h.2 hc
        refine r_aload_n (pc := 54) C d_P_openHole_54 rfl 0 rfl ?_
        refine r_iload (pc := 55) C d_P_openHole_55 3 rfl ?_
        refine r_cVi (pc := 57) (a' := 0) (b' := 0) (As := [.inl l5]) (ci := 1) C (c_P_isFree C.s hg h) o_P_isFree rfl (lay_O hg rfl) (k_237 C.w) rfl ⟨by decide, by decide, by decide, by decide⟩ rfl rfl (Nat.le_of_ble_eq_true rfl) d_P_openHole_57 rfl ?_
        intro r6 μ5 h
        refine r_if_eq (tgt := 69) (pc := 60) C d_P_openHole_60 (by decide) ?_ ?_
        · intro hc; replace h := h.1 hc
          refine r_sub [0, 1, 3] rfl ?_
          exact hk l5 μ5 h
        · intro hc; replace h := h.2 hc
          refine r_iinc (pc := 63) (v := 1) (lv' := [(0, .inr (.inl (some 4))), (3, .inl l3), (4, .inl l4)]) C d_P_openHole_63 3 rfl (by decide) (by decide) rfl ?_
          refine r_goto (tgt := 47) (pc := 66) C d_P_openHole_66 (by decide) ?_
          refine r_sub [1, 2, 3, 0] rfl ?_
          exact ih (l5 + 1) μ5 h
  have L_10 : ∀ (l1 : Int32) (k : Int32 → Mem → Prop), (∀ (v2 : Int32) (μ : Mem), k v2 μ → Rn K G 6 87 [] [] μ 0 0) → ∀ (n : Nat) (l2 : Int32) (μ : Mem), wP_openHole_10 l1 k post n l2 μ → Rn K G 6 10 [(0, .inr (.inl (some 4))), (1, .inl l1), (2, .inl l2)] [] μ 0 0 := by
    intro l1 k hk n
    induction n with
    | zero => intro l2 μ h; exact h.elim
    | succ n ih =>
      intro l2 μ h
      unfold wP_openHole_10 at h
      refine r_iload_n (pc := 10) C d_P_openHole_10 rfl 2 rfl ?_
      refine r_bipush (pc := 11) C d_P_openHole_11 (v := 32) (by decide) ?_
      refine r_icmp_ge (tgt := 87) (pc := 13) C d_P_openHole_13 (by decide) ?_ ?_
      · intro hc; replace h := h.1 hc
        refine r_sub [] rfl ?_
        exact hk l2 μ h
      · intro hc; replace h := h.2 hc
        refine r_iload_n (pc := 16) C d_P_openHole_16 rfl 1 rfl ?_
        refine r_iload_n (pc := 17) C d_P_openHole_17 rfl 2 rfl ?_
        refine r_iadd (pc := 18) C d_P_openHole_18 ?_
        refine r_bipush (pc := 19) C d_P_openHole_19 (v := 32) (by decide) ?_
        refine r_irem (pc := 21) C d_P_openHole_21 (by decide) ?_
        refine r_istore_n (pc := 22) (lv' := [(0, .inr (.inl (some 4))), (1, .inl l1), (2, .inl l2)]) C d_P_openHole_22 rfl (by decide) rfl ?_
        refine r_aload_n (pc := 23) C d_P_openHole_23 rfl 1 rfl ?_
        refine r_iload_n (pc := 24) C d_P_openHole_24 rfl 0 rfl ?_
        refine r_cVi (pc := 25) (a' := 0) (b' := 0) (As := [.inl ((l1 + l2) - (l1 + l2) / 32 * 32)]) (ci := 1) C (c_P_isFree C.s hg h) o_P_isFree rfl (lay_O hg rfl) (k_237 C.w) rfl ⟨by decide, by decide, by decide, by decide⟩ rfl rfl (Nat.le_of_ble_eq_true rfl) d_P_openHole_25 rfl ?_
        intro r4 μ3 h
        refine r_if_eq (tgt := 81) (pc := 28) C d_P_openHole_28 (by decide) ?_ ?_
        · intro hc; replace h := h.1 hc
          refine r_iinc (pc := 81) (v := 1) (lv' := [(3, .inl ((l1 + l2) - (l1 + l2) / 32 * 32)), (0, .inr (.inl (some 4))), (1, .inl l1)]) C d_P_openHole_81 3 rfl (by decide) (by decide) rfl ?_
          refine r_goto (tgt := 10) (pc := 84) C d_P_openHole_84 (by decide) ?_
          refine r_sub [2, 3, 0] rfl ?_
          exact ih (l2 + 1) μ3 h
        · intro hc; replace h := h.2 hc
          refine r_iload_n (pc := 31) C d_P_openHole_31 rfl 0 rfl ?_
          refine r_bipush (pc := 32) C d_P_openHole_32 (v := 8) (by decide) ?_
          refine r_idiv (pc := 34) C d_P_openHole_34 (by decide) ?_
          refine r_iconst (pc := 35) C d_P_openHole_35 (v := 1) (by decide) ?_
          refine r_iadd (pc := 36) C d_P_openHole_36 ?_
          refine r_bipush (pc := 37) C d_P_openHole_37 (v := 8) (by decide) ?_
          refine r_imul (pc := 39) C d_P_openHole_39 ?_
          refine r_istore (pc := 40) (lv' := [(3, .inl ((l1 + l2) - (l1 + l2) / 32 * 32)), (0, .inr (.inl (some 4))), (1, .inl l1), (2, .inl l2)]) C d_P_openHole_40 (by decide) rfl ?_
          refine r_iload_n (pc := 42) C d_P_openHole_42 rfl 1 rfl ?_
          refine r_iconst (pc := 43) C d_P_openHole_43 (v := 1) (by decide) ?_
          refine r_iadd (pc := 44) C d_P_openHole_44 ?_
          refine r_istore (pc := 45) (lv' := [(4, .inl (((((l1 + l2) - (l1 + l2) / 32 * 32) / 8) + 1) * 8)), (3, .inl ((l1 + l2) - (l1 + l2) / 32 * 32)), (0, .inr (.inl (some 4))), (1, .inl l1), (2, .inl l2)]) C d_P_openHole_45 (by decide) rfl ?_
          obtain ⟨n10, h⟩ := h
          refine r_sub [3, 2, 1, 0] rfl ?_
          refine L_47 (((((l1 + l2) - (l1 + l2) / 32 * 32) / 8) + 1) * 8) ((l1 + l2) - (l1 + l2) / 32 * 32) _ ?_ n10 (((l1 + l2) - (l1 + l2) / 32 * 32) + 1) μ3 h
          intro v8 μ7 h
          refine r_aload_n (pc := 69) C d_P_openHole_69 rfl 0 rfl ?_
          refine r_getR (pc := 70) (ci := 1) C rfl 2 (by decide) (k_53 C.w) rfl (lay_O hg rfl) d_P_openHole_70 ?_
          refine r_iload_n (pc := 73) C d_P_openHole_73 rfl 1 rfl ?_
          refine r_iload (pc := 74) C d_P_openHole_74 2 rfl ?_
          refine r_cVv (pc := 76) (a' := 0) (b' := 0) (As := [.inl ((l1 + l2) - (l1 + l2) / 32 * 32), .inl v8]) (ci := 2) C (c_S_open C.s hg h) o_S_open rfl (lay_O hg rfl) (k_185 C.w) rfl ⟨by decide, by decide, by decide, by decide⟩ rfl rfl (Nat.le_of_ble_eq_true rfl) d_P_openHole_76 rfl ?_
          intro μ9 h
          refine r_iconst (pc := 79) C d_P_openHole_79 (v := 1) (by decide) ?_
          exact r_zret (pc := 80) C Q (Or.inr rfl) d_P_openHole_80 (by decide) (by decide) h
  unfold wP_openHole at h
  refine r_aload_n (pc := 0) C d_P_openHole_0 rfl 0 rfl ?_
  refine r_getR (pc := 1) (ci := 1) C rfl 2 (by decide) (k_53 C.w) rfl (lay_O hg rfl) d_P_openHole_1 ?_
  refine r_cVi (pc := 4) (a' := 0) (b' := 0) (As := []) (ci := 2) C (c_S_endLine C.s hg h) o_S_endLine rfl (lay_O hg rfl) (k_233 C.w) rfl ⟨by decide, by decide, by decide, by decide⟩ rfl rfl (Nat.le_of_ble_eq_true rfl) d_P_openHole_4 rfl ?_
  intro r2 μ1 h
  refine r_istore_n (pc := 7) (lv' := [(0, .inr (.inl (some 4)))]) C d_P_openHole_7 rfl (by decide) rfl ?_
  refine r_iconst (pc := 8) C d_P_openHole_8 (v := 0) (by decide) ?_
  refine r_istore_n (pc := 9) (lv' := [(1, .inl r2), (0, .inr (.inl (some 4)))]) C d_P_openHole_9 rfl (by decide) rfl ?_
  obtain ⟨n13, h⟩ := h
  refine r_sub [2, 1, 0] rfl ?_
  refine L_10 r2 _ ?_ n13 0 μ1 h
  intro v12 μ11 h
  refine r_iconst (pc := 87) C d_P_openHole_87 (v := 0) (by decide) ?_
  exact r_zret (pc := 88) C Q (Or.inl rfl) d_P_openHole_88 (by decide) (by decide) h
theorem c_P_find {l : Launch} (hl : l.stackTraces = false) {G : Gl} (hg : gf G = true) {a1 : Int32} {post : Int32 → Mem → Prop} {μ : Mem} (h : wP_find a1 post μ) : Ct l G i_P_find [.inr (.inl (some 4)), .inl a1] μ (poI post) noX := by
  refine ct_of hl (by decide) (Nat.le_of_ble_eq_true rfl) ?_
  intro K hKl C Q hE
  clear hl hKl
  replace C : Cx K G prog_4_method_10_code "LineCollector$Places" 2 { frames := 3, cells := 0, slots := 0, locals := 67 } := C
  replace Q : Cq K G { frames := 3, cells := 0, slots := 0, locals := 67 } (some .int) (poI post) noX := Q
  show Rn K G 2 0 [(0, .inr (.inl (some 4))), (1, .inl a1)] [] μ 0 0
  unfold wP_find at h
  refine r_aload_n (pc := 0) C d_P_find_0 rfl 0 rfl ?_
  refine r_getR (pc := 1) (ci := 1) C rfl 2 (by decide) (k_53 C.w) rfl (lay_O hg rfl) d_P_find_1 ?_
  refine r_iload_n (pc := 4) C d_P_find_4 rfl 1 rfl ?_
  refine r_cVi (pc := 5) (a' := 0) (b' := 0) (As := [.inl a1]) (ci := 2) C (c_S_has C.s hg h) o_S_has rfl (lay_O hg rfl) (k_221 C.w) rfl ⟨by decide, by decide, by decide, by decide⟩ rfl rfl (Nat.le_of_ble_eq_true rfl) d_P_find_5 rfl ?_
  intro r2 μ1 h
  refine r_if_eq (tgt := 20) (pc := 8) C d_P_find_8 (by decide) ?_ ?_
  · intro hc; replace h := h.1 hc
    refine r_iload_n (pc := 20) C d_P_find_20 rfl 1 rfl ?_
    refine r_iconst (pc := 21) C d_P_find_21 (v := 4) (by decide) ?_
    refine r_icmp_gt (tgt := 45) (pc := 22) C d_P_find_22 (by decide) ?_ ?_
    · intro hc; replace h := h.1 hc
      refine r_aload_n (pc := 45) C d_P_find_45 rfl 0 rfl ?_
      refine r_getR (pc := 46) (ci := 1) C rfl 3 (by decide) (k_54 C.w) rfl (lay_O hg rfl) d_P_find_46 ?_
      refine r_iload_n (pc := 49) C d_P_find_49 rfl 1 rfl ?_
      refine r_cVi (pc := 50) (a' := 0) (b' := 0) (As := [.inl a1]) (ci := 2) C (c_S_has C.s hg h) o_S_has rfl (lay_O hg rfl) (k_221 C.w) rfl ⟨by decide, by decide, by decide, by decide⟩ rfl rfl (Nat.le_of_ble_eq_true rfl) d_P_find_50 rfl ?_
      intro r4 μ3 h
      refine r_if_ne (tgt := 63) (pc := 53) C d_P_find_53 (by decide) ?_ ?_
      · intro hc; replace h := h.2 hc
        refine r_aload_n (pc := 63) C d_P_find_63 rfl 0 rfl ?_
        refine r_getR (pc := 64) (ci := 1) C rfl 3 (by decide) (k_54 C.w) rfl (lay_O hg rfl) d_P_find_64 ?_
        refine r_iload_n (pc := 67) C d_P_find_67 rfl 1 rfl ?_
        refine r_cVi (pc := 68) (a' := 0) (b' := 0) (As := [.inl a1]) (ci := 2) C (c_S_take C.s hg h) o_S_take rfl (lay_O hg rfl) (k_225 C.w) rfl ⟨by decide, by decide, by decide, by decide⟩ rfl rfl (Nat.le_of_ble_eq_true rfl) d_P_find_68 rfl ?_
        intro r6 μ5 h
        exact r_iret (pc := 71) C Q d_P_find_71 (by decide) (by decide) h
      · intro hc; replace h := h.1 hc
        refine r_aload_n (pc := 56) C d_P_find_56 rfl 0 rfl ?_
        refine r_cVi (pc := 57) (a' := 0) (b' := 0) (As := []) (ci := 1) C (c_P_openOverflow C.s hg h) o_P_openOverflow rfl (lay_O hg rfl) (k_245 C.w) rfl ⟨by decide, by decide, by decide, by decide⟩ rfl rfl (Nat.le_of_ble_eq_true rfl) d_P_find_57 rfl ?_
        intro r8 μ7 h
        refine r_if_eq (tgt := 72) (pc := 60) C d_P_find_60 (by decide) ?_ ?_
        · intro hc; replace h := h.1 hc
          refine r_iconst (pc := 72) C d_P_find_72 (v := (-1)) (by decide) ?_
          exact r_iret (pc := 73) C Q d_P_find_73 (by decide) (by decide) h
        · intro hc; replace h := h.2 hc
          refine r_aload_n (pc := 63) C d_P_find_63 rfl 0 rfl ?_
          refine r_getR (pc := 64) (ci := 1) C rfl 3 (by decide) (k_54 C.w) rfl (lay_O hg rfl) d_P_find_64 ?_
          refine r_iload_n (pc := 67) C d_P_find_67 rfl 1 rfl ?_
          refine r_cVi (pc := 68) (a' := 0) (b' := 0) (As := [.inl a1]) (ci := 2) C (c_S_take C.s hg h) o_S_take rfl (lay_O hg rfl) (k_225 C.w) rfl ⟨by decide, by decide, by decide, by decide⟩ rfl rfl (Nat.le_of_ble_eq_true rfl) d_P_find_68 rfl ?_
          intro r10 μ9 h
          exact r_iret (pc := 71) C Q d_P_find_71 (by decide) (by decide) h
    · intro hc; replace h := h.2 hc
      refine r_aload_n (pc := 25) C d_P_find_25 rfl 0 rfl ?_
      refine r_cVi (pc := 26) (a' := 0) (b' := 0) (As := []) (ci := 1) C (c_P_openHole C.s hg h) o_P_openHole rfl (lay_O hg rfl) (k_229 C.w) rfl ⟨by decide, by decide, by decide, by decide⟩ rfl rfl (Nat.le_of_ble_eq_true rfl) d_P_find_26 rfl ?_
      intro r12 μ11 h
      refine r_if_eq (tgt := 43) (pc := 29) C d_P_find_29 (by decide) ?_ ?_
      · intro hc; replace h := h.1 hc
        refine r_iconst (pc := 43) C d_P_find_43 (v := (-1)) (by decide) ?_
        exact r_iret (pc := 44) C Q d_P_find_44 (by decide) (by decide) h
      · intro hc; replace h := h.2 hc
        refine r_aload_n (pc := 32) C d_P_find_32 rfl 0 rfl ?_
        refine r_getR (pc := 33) (ci := 1) C rfl 2 (by decide) (k_53 C.w) rfl (lay_O hg rfl) d_P_find_33 ?_
        refine r_iload_n (pc := 36) C d_P_find_36 rfl 1 rfl ?_
        refine r_cVi (pc := 37) (a' := 0) (b' := 0) (As := [.inl a1]) (ci := 2) C (c_S_take C.s hg h) o_S_take rfl (lay_O hg rfl) (k_225 C.w) rfl ⟨by decide, by decide, by decide, by decide⟩ rfl rfl (Nat.le_of_ble_eq_true rfl) d_P_find_37 rfl ?_
        intro r14 μ13 h
        refine r_goto (tgt := 44) (pc := 40) C d_P_find_40 (by decide) ?_
        exact r_iret (pc := 44) C Q d_P_find_44 (by decide) (by decide) h
  · intro hc; replace h := h.2 hc
    refine r_aload_n (pc := 11) C d_P_find_11 rfl 0 rfl ?_
    refine r_getR (pc := 12) (ci := 1) C rfl 2 (by decide) (k_53 C.w) rfl (lay_O hg rfl) d_P_find_12 ?_
    refine r_iload_n (pc := 15) C d_P_find_15 rfl 1 rfl ?_
    refine r_cVi (pc := 16) (a' := 0) (b' := 0) (As := [.inl a1]) (ci := 2) C (c_S_take C.s hg h) o_S_take rfl (lay_O hg rfl) (k_225 C.w) rfl ⟨by decide, by decide, by decide, by decide⟩ rfl rfl (Nat.le_of_ble_eq_true rfl) d_P_find_16 rfl ?_
    intro r16 μ15 h
    exact r_iret (pc := 19) C Q d_P_find_19 (by decide) (by decide) h
theorem c_I_init {l : Launch} (hl : l.stackTraces = false) {G : Gl} {x : Nat} {a1 : Int32} {a2 : Int32} {post : Mem → Prop} {μ : Mem} (h : wI_init x a1 a2 post μ) : Ct l G i_I_init [.inr (.inl (some x)), .inl a1, .inl a2] μ (poV post) noX := by
  refine ct_ofI hl (by decide) (Nat.le_of_ble_eq_true rfl) ?_
  intro K hKl C Q hI
  clear hl hKl
  replace C : Cx K G prog_2_method_1_code "LineCollector$Item" 3 { frames := 1, cells := 2, slots := 24, locals := 20 } := C
  replace Q : Cq K G { frames := 1, cells := 2, slots := 24, locals := 20 } (none) (poV post) noX := Q
  show Rn K G 3 0 [(0, .inr (.inl (some x))), (1, .inl a1), (2, .inl a2)] [] μ 0 0
  unfold wI_init at h
  refine r_aload_n (pc := 0) C d_I_init_0 rfl 0 rfl ?_
  refine r_obj (pc := 1) C (k_458 C.w) (x_objI C.w) (x_objC C.w) d_I_init_1 ⟨by decide, Nat.le_of_ble_eq_true rfl⟩ ?_
  refine r_aload_n (pc := 4) C d_I_init_4 rfl 0 rfl ?_
  refine r_iload_n (pc := 5) C d_I_init_5 rfl 1 rfl ?_
  obtain ⟨o1, h⟩ := h
  refine r_putUI (pc := 6) (ci := 5) C rfl 0 (by decide) (k_460 C.w) (Or.inr ⟨rfl, hI, rfl⟩) rfl p_I o1 d_I_init_6 ?_
  intro μ2 eμ2; replace h := h μ2 eμ2
  refine r_aload_n (pc := 9) C d_I_init_9 rfl 0 rfl ?_
  refine r_iload_n (pc := 10) C d_I_init_10 rfl 2 rfl ?_
  refine r_putUI (pc := 11) (ci := 5) C rfl 1 (by decide) (k_462 C.w) (Or.inr ⟨rfl, hI, rfl⟩) rfl p_I (ok_s eμ2 o1) d_I_init_11 ?_
  intro μ3 eμ3; replace h := h μ3 eμ3
  refine r_aload_n (pc := 14) C d_I_init_14 rfl 0 rfl ?_
  refine r_iload_n (pc := 15) C d_I_init_15 rfl 1 rfl ?_
  obtain ⟨z6, z7, h⟩ := h
  refine r_newQ (pc := 16) (M := 12) (a' := 1) (b' := 12) C (k_459 C.w) d_I_init_16 z6 z7 (by decide) ⟨by decide, by decide⟩ rfl rfl ?_
  intro y4 μ5 ey4 eμ5; replace h := h y4 μ5 ey4 eμ5
  refine r_putUR (pc := 19) (ci := 5) C rfl 2 (by decide) (k_464 C.w) (Or.inr ⟨rfl, hI, rfl⟩) rfl p_AQ (Or.inr ⟨_, rfl⟩) (ok_m eμ5 (ok_s eμ3 (ok_s eμ2 o1))) d_I_init_19 ?_
  intro μ8 eμ8; replace h := h μ8 eμ8
  refine r_aload_n (pc := 22) C d_I_init_22 rfl 0 rfl ?_
  refine r_iload_n (pc := 23) C d_I_init_23 rfl 1 rfl ?_
  obtain ⟨z11, z12, h⟩ := h
  refine r_newZ (pc := 24) (M := 12) (a' := 2) (b' := 24) C x_acZ d_I_init_24 z11 z12 (by decide) ⟨by decide, by decide⟩ rfl rfl ?_
  intro y9 μ10 ey9 eμ10; replace h := h y9 μ10 ey9 eμ10
  refine r_putUR (pc := 26) (ci := 5) C rfl 3 (by decide) (k_467 C.w) (Or.inr ⟨rfl, hI, rfl⟩) rfl p_AZ (Or.inr ⟨_, rfl⟩) (ok_m eμ10 (ok_t eμ8 (ok_m eμ5 (ok_s eμ3 (ok_s eμ2 o1))))) d_I_init_26 ?_
  intro μ13 eμ13; replace h := h μ13 eμ13
  exact r_vret (pc := 29) C Q d_I_init_29 (by decide) (by decide) h
theorem c_P_occupy {l : Launch} (hl : l.stackTraces = false) {G : Gl} (hg : gf G = true) {a1 : Int32} {a2 : Int32} {post : Mem → Prop} {μ : Mem} (h : wP_occupy a1 a2 post μ) : Ct l G i_P_occupy [.inr (.inl (some 4)), .inl a1, .inl a2] μ (poV post) noX := by
  refine ct_of hl (by decide) (Nat.le_of_ble_eq_true rfl) ?_
  intro K hKl C Q hE
  clear hl hKl
  replace C : Cx K G prog_4_method_4_code "LineCollector$Places" 4 { frames := 0, cells := 0, slots := 0, locals := 0 } := C
  replace Q : Cq K G { frames := 0, cells := 0, slots := 0, locals := 0 } (none) (poV post) noX := Q
  show Rn K G 4 0 [(0, .inr (.inl (some 4))), (1, .inl a1), (2, .inl a2)] [] μ 0 0
  have L_2 : ∀ (l1 : Int32) (l2 : Int32) (k : Int32 → Mem → Prop), (∀ (v3 : Int32) (μ : Mem), k v3 μ → Rn K G 4 27 [] [] μ 0 0) → ∀ (n : Nat) (l3 : Int32) (μ : Mem), wP_occupy_2 l1 l2 k n l3 μ → Rn K G 4 2 [(0, .inr (.inl (some 4))), (1, .inl l1), (2, .inl l2), (3, .inl l3)] [] μ 0 0 := by
    intro l1 l2 k hk n
    induction n with
    | zero => intro l3 μ h; exact h.elim
    | succ n ih =>
      intro l3 μ h
      unfold wP_occupy_2 at h
      refine r_iload_n (pc := 2) C d_P_occupy_2 rfl 3 rfl ?_
      refine r_iload_n (pc := 3) C d_P_occupy_3 rfl 1 rfl ?_
      refine r_iload_n (pc := 4) C d_P_occupy_4 rfl 2 rfl ?_
      refine r_iadd (pc := 5) C d_P_occupy_5 ?_
      refine r_icmp_ge (tgt := 27) (pc := 6) C d_P_occupy_6 (by decide) ?_ ?_
      · intro hc; replace h := h.1 hc
        refine r_sub [] rfl ?_
        exact hk l3 μ h
      · intro hc; replace h := h.2 hc
        refine r_aload_n (pc := 9) C d_P_occupy_9 rfl 0 rfl ?_
        refine r_getR (pc := 10) (ci := 1) C rfl 0 (by decide) (k_51 C.w) rfl (lay_O hg rfl) d_P_occupy_10 ?_
        refine r_iload_n (pc := 13) C d_P_occupy_13 rfl 3 rfl ?_
        refine r_iconst (pc := 14) C d_P_occupy_14 (v := 4) (by decide) ?_
        refine r_idiv (pc := 15) C d_P_occupy_15 (by decide) ?_
        refine r_dup2 (pc := 16) C d_P_occupy_16 ?_
        obtain ⟨b1, h⟩ := h
        refine r_iald (pc := 17) C (lay_A hg rfl) b1 d_P_occupy_17 ?_
        refine r_iconst (pc := 18) C d_P_occupy_18 (v := 1) (by decide) ?_
        refine r_iadd (pc := 19) C d_P_occupy_19 ?_
        refine r_iast (pc := 20) C (lay_A hg rfl) b1 d_P_occupy_20 ?_
        intro μ2 eμ2; replace h := h μ2 eμ2
        refine r_iinc (pc := 21) (v := 1) (lv' := [(0, .inr (.inl (some 4))), (1, .inl l1), (2, .inl l2)]) C d_P_occupy_21 3 rfl (by decide) (by decide) rfl ?_
        refine r_goto (tgt := 2) (pc := 24) C d_P_occupy_24 (by decide) ?_
        refine r_sub [1, 2, 3, 0] rfl ?_
        exact ih (l3 + 1) μ2 h
  unfold wP_occupy at h
  refine r_iload_n (pc := 0) C d_P_occupy_0 rfl 1 rfl ?_
  refine r_istore_n (pc := 1) (lv' := [(0, .inr (.inl (some 4))), (1, .inl a1), (2, .inl a2)]) C d_P_occupy_1 rfl (by decide) rfl ?_
  obtain ⟨n5, h⟩ := h
  refine r_sub [1, 2, 3, 0] rfl ?_
  refine L_2 a1 a2 _ ?_ n5 a1 μ h
  intro v4 μ3 h
  exact r_vret (pc := 27) C Q d_P_occupy_27 (by decide) (by decide) h
theorem c_C_settle {l : Launch} (hl : l.stackTraces = false) {G : Gl} (hg : gf G = true) {a1 : Nat} {a2 : Int32} {post : Mem → Prop} {μ : Mem} (h : wC_settle a1 a2 post μ) : Ct l G i_C_settle [.inr (.inl (some 0)), .inr (.inl (some a1)), .inl a2] μ (poV post) noX := by
  refine ct_of hl (by decide) (Nat.le_of_ble_eq_true rfl) ?_
  intro K hKl C Q hE
  clear hl hKl
  replace C : Cx K G prog_1_method_22_code "LineCollector" 3 { frames := 1, cells := 0, slots := 0, locals := 23 } := C
  replace Q : Cq K G { frames := 1, cells := 0, slots := 0, locals := 23 } (none) (poV post) noX := Q
  show Rn K G 3 0 [(0, .inr (.inl (some 0))), (1, .inr (.inl (some a1))), (2, .inl a2)] [] μ 0 0
  unfold wC_settle at h
  refine r_aload_n (pc := 0) C d_C_settle_0 rfl 1 rfl ?_
  refine r_iload_n (pc := 1) C d_C_settle_1 rfl 2 rfl ?_
  obtain ⟨o1, h⟩ := h
  refine r_putI (pc := 2) (ci := 5) C rfl 4 (by decide) (k_470 C.w) rfl rfl p_I (ok_O o1) d_C_settle_2 ?_
  intro μ2 eμ2; replace h := h μ2 eμ2
  refine r_aload_n (pc := 5) C d_C_settle_5 rfl 0 rfl ?_
  refine r_getR (pc := 6) (ci := 0) C rfl 2 (by decide) (k_108 C.w) rfl (lay_O hg rfl) d_C_settle_6 ?_
  refine r_iload_n (pc := 9) C d_C_settle_9 rfl 2 rfl ?_
  refine r_aload_n (pc := 10) C d_C_settle_10 rfl 1 rfl ?_
  obtain ⟨b3, h⟩ := h
  refine r_aast (pc := 11) C (lay_A hg rfl) b3 d_C_settle_11 (fun y hy => by cases hy; exact (ok_s eμ2 o1)) ?_
  intro μ4 eμ4; replace h := h μ4 eμ4
  refine r_aload_n (pc := 12) C d_C_settle_12 rfl 0 rfl ?_
  refine r_getR (pc := 13) (ci := 0) C rfl 3 (by decide) (k_109 C.w) rfl (lay_O hg rfl) d_C_settle_13 ?_
  refine r_iload_n (pc := 16) C d_C_settle_16 rfl 2 rfl ?_
  refine r_aload_n (pc := 17) C d_C_settle_17 rfl 1 rfl ?_
  refine r_getI (pc := 18) (ci := 5) C rfl 0 (by decide) (k_461 C.w) rfl (ok_O (ok_t eμ4 (ok_s eμ2 o1))) d_C_settle_18 ?_
  refine r_cVv (pc := 21) (a' := 0) (b' := 0) (As := [.inl a2, .inl (mI μ4 a1 0)]) (ci := 1) C (c_P_occupy C.s hg h) o_P_occupy rfl (lay_O hg rfl) (k_261 C.w) rfl ⟨by decide, by decide, by decide, by decide⟩ rfl rfl (Nat.le_of_ble_eq_true rfl) d_C_settle_21 rfl ?_
  intro μ5 h
  exact r_vret (pc := 24) C Q d_C_settle_24 (by decide) (by decide) h
theorem c_W_takeFirst {l : Launch} (hl : l.stackTraces = false) {G : Gl} (hg : gf G = true) {x : Nat} {post : Option Nat → Mem → Prop} {μ : Mem} (h : wW_takeFirst x post μ) : Ct l G i_W_takeFirst [.inr (.inl (some x))] μ (poQ G post) noX := by
  refine ct_of hl (by decide) (Nat.le_of_ble_eq_true rfl) ?_
  intro K hKl C Q hE
  clear hl hKl
  replace C : Cx K G prog_5_method_4_code "LineCollector$Row" 2 { frames := 0, cells := 0, slots := 0, locals := 0 } := C
  replace Q : Cq K G { frames := 0, cells := 0, slots := 0, locals := 0 } (some (.object "LineCollector$Item")) (poQ G post) noX := Q
  show Rn K G 2 0 [(0, .inr (.inl (some x)))] [] μ 0 0
  unfold wW_takeFirst at h
  refine r_aload_n (pc := 0) C d_W_takeFirst_0 rfl 0 rfl ?_
  obtain ⟨o1, h⟩ := h
  refine r_getI (pc := 1) (ci := 4) C rfl 2 (by decide) (k_97 C.w) rfl (ok_O o1) d_W_takeFirst_1 ?_
  refine r_if_ne (tgt := 9) (pc := 4) C d_W_takeFirst_4 (by decide) ?_ ?_
  · intro hc; replace h := h.2 hc
    refine r_aload_n (pc := 9) C d_W_takeFirst_9 rfl 0 rfl ?_
    refine r_getR (pc := 10) (ci := 4) C rfl 0 (by decide) (k_95 C.w) rfl (ok_O o1) d_W_takeFirst_10 ?_
    refine r_aload_n (pc := 13) C d_W_takeFirst_13 rfl 0 rfl ?_
    refine r_getI (pc := 14) (ci := 4) C rfl 1 (by decide) (k_96 C.w) rfl (ok_O o1) d_W_takeFirst_14 ?_
    obtain ⟨o2, h⟩ := h
    obtain ⟨b3, h⟩ := h
    refine r_aald (pc := 17) C (ok_A o2) b3 d_W_takeFirst_17 ?_
    intro e4 he4; replace h := h e4 he4
    refine r_astore_n (pc := 18) (lv' := [(0, .inr (.inl (some x)))]) C d_W_takeFirst_18 rfl (by decide) rfl ?_
    refine r_aload_n (pc := 19) C d_W_takeFirst_19 rfl 1 rfl ?_
    refine r_aload_n (pc := 20) C d_W_takeFirst_20 rfl 1 rfl ?_
    refine r_getI (pc := 21) (ci := 4) C rfl 1 (by decide) (k_96 C.w) rfl (ok_O o1) d_W_takeFirst_21 ?_
    refine r_iconst (pc := 24) C d_W_takeFirst_24 (v := 1) (by decide) ?_
    refine r_iadd (pc := 25) C d_W_takeFirst_25 ?_
    refine r_sipush (pc := 26) C d_W_takeFirst_26 (v := 262) (by decide) ?_
    refine r_irem (pc := 29) C d_W_takeFirst_29 (by decide) ?_
    refine r_putI (pc := 30) (ci := 4) C rfl 1 (by decide) (k_96 C.w) rfl rfl p_I (ok_O o1) d_W_takeFirst_30 ?_
    intro μ5 eμ5; replace h := h μ5 eμ5
    refine r_aload_n (pc := 33) C d_W_takeFirst_33 rfl 1 rfl ?_
    refine r_dupR (pc := 34) C d_W_takeFirst_34 ?_
    refine r_getI (pc := 35) (ci := 4) C rfl 2 (by decide) (k_97 C.w) rfl (ok_O (ok_s eμ5 o1)) d_W_takeFirst_35 ?_
    refine r_iconst (pc := 38) C d_W_takeFirst_38 (v := 1) (by decide) ?_
    refine r_isub (pc := 39) C d_W_takeFirst_39 ?_
    refine r_putI (pc := 40) (ci := 4) C rfl 2 (by decide) (k_97 C.w) rfl rfl p_I (ok_O (ok_s eμ5 o1)) d_W_takeFirst_40 ?_
    intro μ6 eμ6; replace h := h μ6 eμ6
    refine r_aload_n (pc := 43) C d_W_takeFirst_43 rfl 0 rfl ?_
    exact r_aret (pc := 44) C Q d_W_takeFirst_44 (by decide) (by decide) h
  · intro hc; replace h := h.1 hc
    refine r_null (pc := 7) C d_W_takeFirst_7 ?_
    exact r_aret (pc := 8) C Q d_W_takeFirst_8 (by decide) (by decide) h
theorem c_P_vacate {l : Launch} (hl : l.stackTraces = false) {G : Gl} (hg : gf G = true) {a1 : Int32} {a2 : Int32} {post : Mem → Prop} {μ : Mem} (h : wP_vacate a1 a2 post μ) : Ct l G i_P_vacate [.inr (.inl (some 4)), .inl a1, .inl a2] μ (poV post) noX := by
  refine ct_of hl (by decide) (Nat.le_of_ble_eq_true rfl) ?_
  intro K hKl C Q hE
  clear hl hKl
  replace C : Cx K G prog_4_method_5_code "LineCollector$Places" 4 { frames := 0, cells := 0, slots := 0, locals := 0 } := C
  replace Q : Cq K G { frames := 0, cells := 0, slots := 0, locals := 0 } (none) (poV post) noX := Q
  show Rn K G 4 0 [(0, .inr (.inl (some 4))), (1, .inl a1), (2, .inl a2)] [] μ 0 0
  have L_2 : ∀ (l1 : Int32) (l2 : Int32) (k : Int32 → Mem → Prop), (∀ (v3 : Int32) (μ : Mem), k v3 μ → Rn K G 4 27 [] [] μ 0 0) → ∀ (n : Nat) (l3 : Int32) (μ : Mem), wP_vacate_2 l1 l2 k n l3 μ → Rn K G 4 2 [(0, .inr (.inl (some 4))), (1, .inl l1), (2, .inl l2), (3, .inl l3)] [] μ 0 0 := by
    intro l1 l2 k hk n
    induction n with
    | zero => intro l3 μ h; exact h.elim
    | succ n ih =>
      intro l3 μ h
      unfold wP_vacate_2 at h
      refine r_iload_n (pc := 2) C d_P_vacate_2 rfl 3 rfl ?_
      refine r_iload_n (pc := 3) C d_P_vacate_3 rfl 1 rfl ?_
      refine r_iload_n (pc := 4) C d_P_vacate_4 rfl 2 rfl ?_
      refine r_iadd (pc := 5) C d_P_vacate_5 ?_
      refine r_icmp_ge (tgt := 27) (pc := 6) C d_P_vacate_6 (by decide) ?_ ?_
      · intro hc; replace h := h.1 hc
        refine r_sub [] rfl ?_
        exact hk l3 μ h
      · intro hc; replace h := h.2 hc
        refine r_aload_n (pc := 9) C d_P_vacate_9 rfl 0 rfl ?_
        refine r_getR (pc := 10) (ci := 1) C rfl 0 (by decide) (k_51 C.w) rfl (lay_O hg rfl) d_P_vacate_10 ?_
        refine r_iload_n (pc := 13) C d_P_vacate_13 rfl 3 rfl ?_
        refine r_iconst (pc := 14) C d_P_vacate_14 (v := 4) (by decide) ?_
        refine r_idiv (pc := 15) C d_P_vacate_15 (by decide) ?_
        refine r_dup2 (pc := 16) C d_P_vacate_16 ?_
        obtain ⟨b1, h⟩ := h
        refine r_iald (pc := 17) C (lay_A hg rfl) b1 d_P_vacate_17 ?_
        refine r_iconst (pc := 18) C d_P_vacate_18 (v := 1) (by decide) ?_
        refine r_isub (pc := 19) C d_P_vacate_19 ?_
        refine r_iast (pc := 20) C (lay_A hg rfl) b1 d_P_vacate_20 ?_
        intro μ2 eμ2; replace h := h μ2 eμ2
        refine r_iinc (pc := 21) (v := 1) (lv' := [(0, .inr (.inl (some 4))), (1, .inl l1), (2, .inl l2)]) C d_P_vacate_21 3 rfl (by decide) (by decide) rfl ?_
        refine r_goto (tgt := 2) (pc := 24) C d_P_vacate_24 (by decide) ?_
        refine r_sub [1, 2, 3, 0] rfl ?_
        exact ih (l3 + 1) μ2 h
  unfold wP_vacate at h
  refine r_iload_n (pc := 0) C d_P_vacate_0 rfl 1 rfl ?_
  refine r_istore_n (pc := 1) (lv' := [(0, .inr (.inl (some 4))), (1, .inl a1), (2, .inl a2)]) C d_P_vacate_1 rfl (by decide) rfl ?_
  obtain ⟨n5, h⟩ := h
  refine r_sub [1, 2, 3, 0] rfl ?_
  refine L_2 a1 a2 _ ?_ n5 a1 μ h
  intro v4 μ3 h
  exact r_vret (pc := 27) C Q d_P_vacate_27 (by decide) (by decide) h
