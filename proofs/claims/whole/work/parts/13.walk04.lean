/-! The machine meets the predicates (written by a program) -/
theorem c_C_drop {l : Launch} (hl : l.stackTraces = false) {G : Gl} (hg : gf G = true) {a1 : Int32} {pe : Nat → Mem → Prop} {post : Mem → Prop} {μ : Mem} (h : wC_drop a1 pe post μ) : Ct l G i_C_drop [.inr (.inl (some 0)), .inl a1] μ (poV post) pe := by
  refine ct_of hl (by decide) (Nat.le_of_ble_eq_true rfl) ?_
  intro K hKl C Q hE
  clear hl hKl
  replace C : Cx K G prog_1_method_3_code "LineCollector" 2 { frames := 6, cells := 1, slots := 6, locals := 81 } := C
  replace Q : Cq K G { frames := 6, cells := 1, slots := 6, locals := 81 } (none) (poV post) pe := Q
  show Rn K G 2 0 [(0, .inr (.inl (some 0))), (1, .inl a1)] [] μ 0 0
  unfold wC_drop at h
  refine r_iload_n (pc := 0) C d_C_drop_0 rfl 1 rfl ?_
  refine r_cSi (pc := 1) (a' := 0) (b' := 0) (As := [.inl a1]) C (c_C_isRoot C.s hg h) o_C_isRoot (k_355 C.w) rfl ⟨by decide, by decide, by decide, by decide⟩ rfl rfl (Nat.le_of_ble_eq_true rfl) d_C_drop_1 rfl ?_
  intro r2 μ1 h
  refine r_if_ne (tgt := 15) (pc := 4) C d_C_drop_4 (by decide) ?_ ?_
  · intro hc; replace h := h.2 hc
    refine r_aload_n (pc := 15) C d_C_drop_15 rfl 0 rfl ?_
    refine r_getR (pc := 16) (ci := 0) C rfl 0 (by decide) (k_106 C.w) rfl (lay_O hg rfl) d_C_drop_16 ?_
    refine r_iload_n (pc := 19) C d_C_drop_19 rfl 1 rfl ?_
    refine r_null (pc := 20) C d_C_drop_20 ?_
    obtain ⟨b3, h⟩ := h
    refine r_aast (pc := 21) C (lay_A hg rfl) b3 d_C_drop_21 (fun y hy => by cases hy) ?_
    intro μ4 eμ4; replace h := h μ4 eμ4
    exact r_vret (pc := 22) C Q d_C_drop_22 (by decide) (by decide) h
  · intro hc; replace h := h.1 hc
    exact r_throw (pc := 7) C Q hE (q := 7) rfl (by decide +kernel) (k_358 C.w) x_ins7 x_ini7 (x_C_51) d_C_drop_7 d_C_drop_10 d_C_drop_11 d_C_drop_14 ⟨by decide, by decide, by decide, by decide⟩ h
theorem c_C_copy {l : Launch} (hl : l.stackTraces = false) {G : Gl} (hg : gf G = true) {a1 : Int32} {a2 : Int32} {pe : Nat → Mem → Prop} {post : Mem → Prop} {μ : Mem} (h : wC_copy a1 a2 pe post μ) : Ct l G i_C_copy [.inr (.inl (some 0)), .inl a1, .inl a2] μ (poV post) pe := by
  refine ct_of hl (by decide) (Nat.le_of_ble_eq_true rfl) ?_
  intro K hKl C Q hE
  clear hl hKl
  replace C : Cx K G prog_1_method_4_code "LineCollector" 3 { frames := 6, cells := 1, slots := 6, locals := 81 } := C
  replace Q : Cq K G { frames := 6, cells := 1, slots := 6, locals := 81 } (none) (poV post) pe := Q
  show Rn K G 3 0 [(0, .inr (.inl (some 0))), (1, .inl a1), (2, .inl a2)] [] μ 0 0
  unfold wC_copy at h
  refine r_iload_n (pc := 0) C d_C_copy_0 rfl 1 rfl ?_
  refine r_cSi (pc := 1) (a' := 0) (b' := 0) (As := [.inl a1]) C (c_C_isRoot C.s hg h) o_C_isRoot (k_355 C.w) rfl ⟨by decide, by decide, by decide, by decide⟩ rfl rfl (Nat.le_of_ble_eq_true rfl) d_C_copy_1 rfl ?_
  intro r2 μ1 h
  refine r_if_eq (tgt := 14) (pc := 4) C d_C_copy_4 (by decide) ?_ ?_
  · intro hc; replace h := h.1 hc
    exact r_throw (pc := 14) C Q hE (q := 7) rfl (by decide +kernel) (k_358 C.w) x_ins7 x_ini7 (x_C_51) d_C_copy_14 d_C_copy_17 d_C_copy_18 d_C_copy_21 ⟨by decide, by decide, by decide, by decide⟩ h
  · intro hc; replace h := h.2 hc
    refine r_iload_n (pc := 7) C d_C_copy_7 rfl 2 rfl ?_
    refine r_cSi (pc := 8) (a' := 0) (b' := 0) (As := [.inl a2]) C (c_C_isRoot C.s hg h) o_C_isRoot (k_355 C.w) rfl ⟨by decide, by decide, by decide, by decide⟩ rfl rfl (Nat.le_of_ble_eq_true rfl) d_C_copy_8 rfl ?_
    intro r4 μ3 h
    refine r_if_ne (tgt := 22) (pc := 11) C d_C_copy_11 (by decide) ?_ ?_
    · intro hc; replace h := h.2 hc
      refine r_aload_n (pc := 22) C d_C_copy_22 rfl 0 rfl ?_
      refine r_getR (pc := 23) (ci := 0) C rfl 0 (by decide) (k_106 C.w) rfl (lay_O hg rfl) d_C_copy_23 ?_
      refine r_iload_n (pc := 26) C d_C_copy_26 rfl 1 rfl ?_
      refine r_aload_n (pc := 27) C d_C_copy_27 rfl 0 rfl ?_
      refine r_getR (pc := 28) (ci := 0) C rfl 0 (by decide) (k_106 C.w) rfl (lay_O hg rfl) d_C_copy_28 ?_
      refine r_iload_n (pc := 31) C d_C_copy_31 rfl 2 rfl ?_
      obtain ⟨b5, h⟩ := h
      refine r_aald (pc := 32) C (lay_A hg rfl) b5 d_C_copy_32 ?_
      intro e6 he6; replace h := h e6 he6
      obtain ⟨b7, h⟩ := h
      obtain ⟨o9, h⟩ := h
      refine r_aast (pc := 33) C (lay_A hg rfl) b7 d_C_copy_33 o9 ?_
      intro μ8 eμ8; replace h := h μ8 eμ8
      exact r_vret (pc := 34) C Q d_C_copy_34 (by decide) (by decide) h
    · intro hc; replace h := h.1 hc
      exact r_throw (pc := 14) C Q hE (q := 7) rfl (by decide +kernel) (k_358 C.w) x_ins7 x_ini7 (x_C_51) d_C_copy_14 d_C_copy_17 d_C_copy_18 d_C_copy_21 ⟨by decide, by decide, by decide, by decide⟩ h
theorem c_I_hasField {l : Launch} (hl : l.stackTraces = false) {G : Gl} (hg : gf G = true) {x : Nat} {a1 : Int32} {post : Int32 → Mem → Prop} {μ : Mem} (h : wI_hasField x a1 post μ) : Ct l G i_I_hasField [.inr (.inl (some x)), .inl a1] μ (poI post) noX := by
  refine ct_of hl (by decide) (Nat.le_of_ble_eq_true rfl) ?_
  intro K hKl C Q hE
  clear hl hKl
  replace C : Cx K G prog_2_method_2_code "LineCollector$Item" 2 { frames := 0, cells := 0, slots := 0, locals := 0 } := C
  replace Q : Cq K G { frames := 0, cells := 0, slots := 0, locals := 0 } (some .boolean) (poI post) noX := Q
  show Rn K G 2 0 [(0, .inr (.inl (some x))), (1, .inl a1)] [] μ 0 0
  unfold wI_hasField at h
  refine r_iload_n (pc := 0) C d_I_hasField_0 rfl 1 rfl ?_
  refine r_if_lt (tgt := 16) (pc := 1) C d_I_hasField_1 (by decide) ?_ ?_
  · intro hc; replace h := h.1 hc
    refine r_iconst (pc := 16) C d_I_hasField_16 (v := 0) (by decide) ?_
    exact r_zret (pc := 17) C Q (Or.inl rfl) d_I_hasField_17 (by decide) (by decide) h
  · intro hc; replace h := h.2 hc
    refine r_iload_n (pc := 4) C d_I_hasField_4 rfl 1 rfl ?_
    refine r_aload_n (pc := 5) C d_I_hasField_5 rfl 0 rfl ?_
    obtain ⟨o1, h⟩ := h
    refine r_getI (pc := 6) (ci := 5) C rfl 0 (by decide) (k_460 C.w) rfl (ok_O o1) d_I_hasField_6 ?_
    refine r_icmp_ge (tgt := 16) (pc := 9) C d_I_hasField_9 (by decide) ?_ ?_
    · intro hc; replace h := h.1 hc
      refine r_iconst (pc := 16) C d_I_hasField_16 (v := 0) (by decide) ?_
      exact r_zret (pc := 17) C Q (Or.inl rfl) d_I_hasField_17 (by decide) (by decide) h
    · intro hc; replace h := h.2 hc
      refine r_iconst (pc := 12) C d_I_hasField_12 (v := 1) (by decide) ?_
      refine r_goto (tgt := 17) (pc := 13) C d_I_hasField_13 (by decide) ?_
      exact r_zret (pc := 17) C Q (Or.inr rfl) d_I_hasField_17 (by decide) (by decide) h
theorem c_C_itemWithField {l : Launch} (hl : l.stackTraces = false) {G : Gl} (hg : gf G = true) {a1 : Int32} {a2 : Int32} {a3 : Int32} {pe : Nat → Mem → Prop} {post : Nat → Mem → Prop} {μ : Mem} (h : wC_itemWithField a1 a2 a3 pe post μ) : Ct l G i_C_itemWithField [.inr (.inl (some 0)), .inl a1, .inl a2, .inl a3] μ (poQ G (fun e μ => ∃ y, e = some y ∧ post y μ)) pe := by
  refine ct_of hl (by decide) (Nat.le_of_ble_eq_true rfl) ?_
  intro K hKl C Q hE
  clear hl hKl
  replace C : Cx K G prog_1_method_16_code "LineCollector" 5 { frames := 6, cells := 1, slots := 6, locals := 81 } := C
  replace Q : Cq K G { frames := 6, cells := 1, slots := 6, locals := 81 } (some (.object "LineCollector$Item")) (poQ G (fun e μ => ∃ y, e = some y ∧ post y μ)) pe := Q
  show Rn K G 5 0 [(0, .inr (.inl (some 0))), (1, .inl a1), (2, .inl a2), (3, .inl a3)] [] μ 0 0
  unfold wC_itemWithField at h
  refine r_iload_n (pc := 0) C d_C_itemWithField_0 rfl 1 rfl ?_
  refine r_cSi (pc := 1) (a' := 0) (b' := 0) (As := [.inl a1]) C (c_C_isRoot C.s hg h) o_C_isRoot (k_355 C.w) rfl ⟨by decide, by decide, by decide, by decide⟩ rfl rfl (Nat.le_of_ble_eq_true rfl) d_C_itemWithField_1 rfl ?_
  intro r2 μ1 h
  refine r_if_eq (tgt := 14) (pc := 4) C d_C_itemWithField_4 (by decide) ?_ ?_
  · intro hc; replace h := h.1 hc
    exact r_throw (pc := 14) C Q hE (q := 7) rfl (by decide +kernel) (k_358 C.w) x_ins7 x_ini7 (x_C_51) d_C_itemWithField_14 d_C_itemWithField_17 d_C_itemWithField_18 d_C_itemWithField_21 ⟨by decide, by decide, by decide, by decide⟩ h
  · intro hc; replace h := h.2 hc
    refine r_iload_n (pc := 7) C d_C_itemWithField_7 rfl 3 rfl ?_
    refine r_cSi (pc := 8) (a' := 0) (b' := 0) (As := [.inl a3]) C (c_C_isRoot C.s hg h) o_C_isRoot (k_355 C.w) rfl ⟨by decide, by decide, by decide, by decide⟩ rfl rfl (Nat.le_of_ble_eq_true rfl) d_C_itemWithField_8 rfl ?_
    intro r4 μ3 h
    refine r_if_ne (tgt := 22) (pc := 11) C d_C_itemWithField_11 (by decide) ?_ ?_
    · intro hc; replace h := h.2 hc
      refine r_aload_n (pc := 22) C d_C_itemWithField_22 rfl 0 rfl ?_
      refine r_getR (pc := 23) (ci := 0) C rfl 0 (by decide) (k_106 C.w) rfl (lay_O hg rfl) d_C_itemWithField_23 ?_
      refine r_iload_n (pc := 26) C d_C_itemWithField_26 rfl 1 rfl ?_
      obtain ⟨b5, h⟩ := h
      refine r_aald (pc := 27) C (lay_A hg rfl) b5 d_C_itemWithField_27 ?_
      intro e6 he6; replace h := h e6 he6
      refine r_astore (pc := 28) (lv' := [(0, .inr (.inl (some 0))), (1, .inl a1), (2, .inl a2), (3, .inl a3)]) C d_C_itemWithField_28 (by decide) rfl ?_
      refine r_aload (pc := 30) C d_C_itemWithField_30 0 rfl ?_
      refine r_ifnonnull (tgt := 43) (pc := 32) C d_C_itemWithField_32 (by decide) ?_ ?_
      · intro y7 h0; subst h0; replace h := h.2 y7 rfl
        refine r_aload (pc := 43) C d_C_itemWithField_43 0 rfl ?_
        refine r_iload_n (pc := 45) C d_C_itemWithField_45 rfl 3 rfl ?_
        obtain ⟨o8, h⟩ := h
        refine r_cVi (pc := 46) (a' := 0) (b' := 0) (As := [.inl a2]) (ci := 5) C (c_I_hasField C.s hg h) o_I_hasField rfl (ok_O o8) (k_532 C.w) rfl ⟨by decide, by decide, by decide, by decide⟩ rfl rfl (Nat.le_of_ble_eq_true rfl) d_C_itemWithField_46 rfl ?_
        intro r10 μ9 h
        refine r_if_ne (tgt := 60) (pc := 49) C d_C_itemWithField_49 (by decide) ?_ ?_
        · intro hc; replace h := h.2 hc
          refine r_aload (pc := 60) C d_C_itemWithField_60 0 rfl ?_
          exact r_aret (pc := 62) C Q d_C_itemWithField_62 (by decide) (by decide) ⟨_, rfl, h⟩
        · intro hc; replace h := h.1 hc
          exact r_throw (pc := 52) C Q hE (q := 9) rfl (by decide +kernel) (k_536 C.w) x_ins9 x_ini9 (x_C_159) d_C_itemWithField_52 d_C_itemWithField_55 d_C_itemWithField_56 d_C_itemWithField_59 ⟨by decide, by decide, by decide, by decide⟩ h
      · intro h0; subst h0; replace h := h.1 rfl
        exact r_throw (pc := 35) C Q hE (q := 8) rfl (by decide +kernel) (k_517 C.w) x_ins8 x_ini8 (x_C_105) d_C_itemWithField_35 d_C_itemWithField_38 d_C_itemWithField_39 d_C_itemWithField_42 ⟨by decide, by decide, by decide, by decide⟩ h
    · intro hc; replace h := h.1 hc
      exact r_throw (pc := 14) C Q hE (q := 7) rfl (by decide +kernel) (k_358 C.w) x_ins7 x_ini7 (x_C_51) d_C_itemWithField_14 d_C_itemWithField_17 d_C_itemWithField_18 d_C_itemWithField_21 ⟨by decide, by decide, by decide, by decide⟩ h
theorem c_C_addressOf {l : Launch} (hl : l.stackTraces = false) {G : Gl} (hg : gf G = true) {a1 : Option Nat} {post : Int32 → Mem → Prop} {μ : Mem} (h : wC_addressOf a1 post μ) : Ct l G i_C_addressOf [.inr (.inl a1)] μ (poI post) noX := by
  refine ct_of hl (by decide) (Nat.le_of_ble_eq_true rfl) ?_
  intro K hKl C Q hE
  clear hl hKl
  replace C : Cx K G prog_1_method_17_code "LineCollector" 1 { frames := 0, cells := 0, slots := 0, locals := 0 } := C
  replace Q : Cq K G { frames := 0, cells := 0, slots := 0, locals := 0 } (some .int) (poI post) noX := Q
  show Rn K G 1 0 [(0, .inr (.inl a1))] [] μ 0 0
  unfold wC_addressOf at h
  refine r_aload_n (pc := 0) C d_C_addressOf_0 rfl 0 rfl ?_
  refine r_ifnonnull (tgt := 8) (pc := 1) C d_C_addressOf_1 (by decide) ?_ ?_
  · intro y1 h0; subst h0; replace h := h.2 y1 rfl
    refine r_aload_n (pc := 8) C d_C_addressOf_8 rfl 0 rfl ?_
    obtain ⟨o2, h⟩ := h
    refine r_getI (pc := 9) (ci := 5) C rfl 4 (by decide) (k_470 C.w) rfl (ok_O o2) d_C_addressOf_9 ?_
    exact r_iret (pc := 12) C Q d_C_addressOf_12 (by decide) (by decide) h
  · intro h0; subst h0; replace h := h.1 rfl
    refine r_iconst (pc := 4) C d_C_addressOf_4 (v := (-1)) (by decide) ?_
    refine r_goto (tgt := 12) (pc := 5) C d_C_addressOf_5 (by decide) ?_
    exact r_iret (pc := 12) C Q d_C_addressOf_12 (by decide) (by decide) h
theorem c_C_load {l : Launch} (hl : l.stackTraces = false) {G : Gl} (hg : gf G = true) {a1 : Int32} {a2 : Int32} {a3 : Int32} {pe : Nat → Mem → Prop} {post : Int32 → Mem → Prop} {μ : Mem} (h : wC_load a1 a2 a3 pe post μ) : Ct l G i_C_load [.inr (.inl (some 0)), .inl a1, .inl a2, .inl a3] μ (poI post) pe := by
  refine ct_of hl (by decide) (Nat.le_of_ble_eq_true rfl) ?_
  intro K hKl C Q hE
  clear hl hKl
  replace C : Cx K G prog_1_method_5_code "LineCollector" 5 { frames := 7, cells := 1, slots := 6, locals := 105 } := C
  replace Q : Cq K G { frames := 7, cells := 1, slots := 6, locals := 105 } (some .int) (poI post) pe := Q
  show Rn K G 5 0 [(0, .inr (.inl (some 0))), (1, .inl a1), (2, .inl a2), (3, .inl a3)] [] μ 0 0
  unfold wC_load at h
  refine r_aload_n (pc := 0) C d_C_load_0 rfl 0 rfl ?_
  refine r_iload_n (pc := 1) C d_C_load_1 rfl 2 rfl ?_
  refine r_iload_n (pc := 2) C d_C_load_2 rfl 3 rfl ?_
  refine r_iload_n (pc := 3) C d_C_load_3 rfl 1 rfl ?_
  refine r_cVtq (pc := 4) (a' := 1) (b' := 6) (As := [.inl a2, .inl a3, .inl a1]) (ci := 0) C Q hE (c_C_itemWithField C.s hg h) o_C_itemWithField rfl (lay_O hg rfl) (k_513 C.w) rfl ⟨by decide, by decide, by decide, by decide⟩ rfl rfl (Nat.le_of_ble_eq_true rfl) d_C_load_4 rfl ?_
  rintro _ μ1 ⟨y2, rfl, h⟩
  refine r_astore (pc := 7) (lv' := [(0, .inr (.inl (some 0))), (1, .inl a1), (2, .inl a2), (3, .inl a3)]) C d_C_load_7 (by decide) rfl ?_
  refine r_aload_n (pc := 9) C d_C_load_9 rfl 1 rfl ?_
  refine r_getR (pc := 10) (ci := 0) C rfl 0 (by decide) (k_106 C.w) rfl (lay_O hg rfl) d_C_load_10 ?_
  refine r_iload_n (pc := 13) C d_C_load_13 rfl 2 rfl ?_
  refine r_aload (pc := 14) C d_C_load_14 0 rfl ?_
  obtain ⟨o3, h⟩ := h
  refine r_getR (pc := 16) (ci := 5) C rfl 2 (by decide) (k_466 C.w) rfl (ok_O o3) d_C_load_16 ?_
  refine r_iload_n (pc := 19) C d_C_load_19 rfl 4 rfl ?_
  obtain ⟨o4, h⟩ := h
  obtain ⟨b5, h⟩ := h
  refine r_aald (pc := 20) C (ok_A o4) b5 d_C_load_20 ?_
  intro e6 he6; replace h := h e6 he6
  obtain ⟨b7, h⟩ := h
  obtain ⟨o9, h⟩ := h
  refine r_aast (pc := 21) C (lay_A hg rfl) b7 d_C_load_21 o9 ?_
  intro μ8 eμ8; replace h := h μ8 eμ8
  refine r_aload_n (pc := 22) C d_C_load_22 rfl 1 rfl ?_
  refine r_getR (pc := 23) (ci := 0) C rfl 0 (by decide) (k_106 C.w) rfl (lay_O hg rfl) d_C_load_23 ?_
  refine r_iload_n (pc := 26) C d_C_load_26 rfl 2 rfl ?_
  refine r_aald (pc := 27) C (lay_A hg rfl) b7 d_C_load_27 ?_
  intro e10 he10; replace h := h e10 he10
  refine r_cSi (pc := 28) (a' := 1) (b' := 6) (As := [.inr (.inl e10)]) C (c_C_addressOf C.s hg h) o_C_addressOf (k_551 C.w) rfl ⟨by decide, by decide, by decide, by decide⟩ rfl rfl (Nat.le_of_ble_eq_true rfl) d_C_load_28 rfl ?_
  intro r12 μ11 h
  exact r_iret (pc := 31) C Q d_C_load_31 (by decide) (by decide) h
theorem c_G_add {l : Launch} (hl : l.stackTraces = false) {G : Gl} (hg : gf G = true) {a1 : Nat} {a2 : Int32} {post : Mem → Prop} {μ : Mem} (h : wG_add a1 a2 post μ) : Ct l G i_G_add [.inr (.inl (some 9)), .inr (.inl (some a1)), .inl a2] μ (poV post) noX := by
  refine ct_of hl (by decide) (Nat.le_of_ble_eq_true rfl) ?_
  intro K hKl C Q hE
  clear hl hKl
  replace C : Cx K G prog_3_method_2_code "LineCollector$Log" 3 { frames := 0, cells := 0, slots := 0, locals := 0 } := C
  replace Q : Cq K G { frames := 0, cells := 0, slots := 0, locals := 0 } (none) (poV post) noX := Q
  show Rn K G 3 0 [(0, .inr (.inl (some 9))), (1, .inr (.inl (some a1))), (2, .inl a2)] [] μ 0 0
  unfold wG_add at h
  refine r_aload_n (pc := 0) C d_G_add_0 rfl 0 rfl ?_
  refine r_getI (pc := 1) (ci := 3) C rfl 3 (by decide) (k_77 C.w) rfl (lay_O hg rfl) d_G_add_1 ?_
  refine r_sipush (pc := 4) C d_G_add_4 (v := 128) (by decide) ?_
  refine r_icmp_ge (tgt := 62) (pc := 7) C d_G_add_7 (by decide) ?_ ?_
  · intro hc; replace h := h.1 hc
    exact r_vret (pc := 62) C Q d_G_add_62 (by decide) (by decide) h
  · intro hc; replace h := h.2 hc
    refine r_aload_n (pc := 10) C d_G_add_10 rfl 0 rfl ?_
    refine r_getR (pc := 11) (ci := 3) C rfl 0 (by decide) (k_74 C.w) rfl (lay_O hg rfl) d_G_add_11 ?_
    refine r_aload_n (pc := 14) C d_G_add_14 rfl 0 rfl ?_
    refine r_getI (pc := 15) (ci := 3) C rfl 3 (by decide) (k_77 C.w) rfl (lay_O hg rfl) d_G_add_15 ?_
    refine r_aload_n (pc := 18) C d_G_add_18 rfl 1 rfl ?_
    obtain ⟨b1, h⟩ := h
    obtain ⟨o3, h⟩ := h
    refine r_aast (pc := 19) C (lay_A hg rfl) b1 d_G_add_19 (fun y hy => by cases hy; exact o3) ?_
    intro μ2 eμ2; replace h := h μ2 eμ2
    refine r_aload_n (pc := 20) C d_G_add_20 rfl 0 rfl ?_
    refine r_getR (pc := 21) (ci := 3) C rfl 1 (by decide) (k_75 C.w) rfl (lay_O hg rfl) d_G_add_21 ?_
    refine r_aload_n (pc := 24) C d_G_add_24 rfl 0 rfl ?_
    refine r_getI (pc := 25) (ci := 3) C rfl 3 (by decide) (k_77 C.w) rfl (lay_O hg rfl) d_G_add_25 ?_
    refine r_iload_n (pc := 28) C d_G_add_28 rfl 2 rfl ?_
    obtain ⟨b4, h⟩ := h
    refine r_iast (pc := 29) C (lay_A hg rfl) b4 d_G_add_29 ?_
    intro μ5 eμ5; replace h := h μ5 eμ5
    refine r_aload_n (pc := 30) C d_G_add_30 rfl 0 rfl ?_
    refine r_getR (pc := 31) (ci := 3) C rfl 2 (by decide) (k_76 C.w) rfl (lay_O hg rfl) d_G_add_31 ?_
    refine r_aload_n (pc := 34) C d_G_add_34 rfl 0 rfl ?_
    refine r_getI (pc := 35) (ci := 3) C rfl 3 (by decide) (k_77 C.w) rfl (lay_O hg rfl) d_G_add_35 ?_
    refine r_aload_n (pc := 38) C d_G_add_38 rfl 1 rfl ?_
    refine r_getR (pc := 39) (ci := 5) C rfl 2 (by decide) (k_465 C.w) rfl (ok_O (ok_s eμ5 (ok_t eμ2 o3))) d_G_add_39 ?_
    refine r_iload_n (pc := 42) C d_G_add_42 rfl 2 rfl ?_
    obtain ⟨o6, h⟩ := h
    obtain ⟨b7, h⟩ := h
    refine r_aald (pc := 43) C (ok_A o6) b7 d_G_add_43 ?_
    intro e8 he8; replace h := h e8 he8
    obtain ⟨b9, h⟩ := h
    obtain ⟨o11, h⟩ := h
    refine r_aast (pc := 44) C (lay_A hg rfl) b9 d_G_add_44 o11 ?_
    intro μ10 eμ10; replace h := h μ10 eμ10
    refine r_aload_n (pc := 45) C d_G_add_45 rfl 1 rfl ?_
    refine r_getR (pc := 46) (ci := 5) C rfl 3 (by decide) (k_468 C.w) rfl (ok_O (ok_t eμ10 (ok_s eμ5 (ok_t eμ2 o3)))) d_G_add_46 ?_
    refine r_iload_n (pc := 49) C d_G_add_49 rfl 2 rfl ?_
    refine r_iconst (pc := 50) C d_G_add_50 (v := 1) (by decide) ?_
    obtain ⟨o12, h⟩ := h
    obtain ⟨b13, h⟩ := h
    refine r_zast (pc := 51) C (ok_A o12) b13 d_G_add_51 (Or.inr rfl) ?_
    intro μ14 eμ14; replace h := h μ14 eμ14
    refine r_aload_n (pc := 52) C d_G_add_52 rfl 0 rfl ?_
    refine r_dupR (pc := 53) C d_G_add_53 ?_
    refine r_getI (pc := 54) (ci := 3) C rfl 3 (by decide) (k_77 C.w) rfl (lay_O hg rfl) d_G_add_54 ?_
    refine r_iconst (pc := 57) C d_G_add_57 (v := 1) (by decide) ?_
    refine r_iadd (pc := 58) C d_G_add_58 ?_
    refine r_putI (pc := 59) (ci := 3) C rfl 3 (by decide) (k_77 C.w) rfl rfl p_I (lay_O hg rfl) d_G_add_59 ?_
    intro μ15 eμ15; replace h := h μ15 eμ15
    exact r_vret (pc := 62) C Q d_G_add_62 (by decide) (by decide) h
theorem c_C_store {l : Launch} (hl : l.stackTraces = false) {G : Gl} (hg : gf G = true) {a1 : Int32} {a2 : Int32} {a3 : Int32} {pe : Nat → Mem → Prop} {post : Mem → Prop} {μ : Mem} (h : wC_store a1 a2 a3 pe post μ) : Ct l G i_C_store [.inr (.inl (some 0)), .inl a1, .inl a2, .inl a3] μ (poV post) pe := by
  refine ct_of hl (by decide) (Nat.le_of_ble_eq_true rfl) ?_
  intro K hKl C Q hE
  clear hl hKl
  replace C : Cx K G prog_1_method_6_code "LineCollector" 5 { frames := 7, cells := 1, slots := 6, locals := 105 } := C
  replace Q : Cq K G { frames := 7, cells := 1, slots := 6, locals := 105 } (none) (poV post) pe := Q
  show Rn K G 5 0 [(0, .inr (.inl (some 0))), (1, .inl a1), (2, .inl a2), (3, .inl a3)] [] μ 0 0
  unfold wC_store at h
  refine r_aload_n (pc := 0) C d_C_store_0 rfl 0 rfl ?_
  refine r_iload_n (pc := 1) C d_C_store_1 rfl 1 rfl ?_
  refine r_iload_n (pc := 2) C d_C_store_2 rfl 2 rfl ?_
  refine r_iload_n (pc := 3) C d_C_store_3 rfl 3 rfl ?_
  refine r_cVtq (pc := 4) (a' := 1) (b' := 6) (As := [.inl a1, .inl a2, .inl a3]) (ci := 0) C Q hE (c_C_itemWithField C.s hg h) o_C_itemWithField rfl (lay_O hg rfl) (k_513 C.w) rfl ⟨by decide, by decide, by decide, by decide⟩ rfl rfl (Nat.le_of_ble_eq_true rfl) d_C_store_4 rfl ?_
  rintro _ μ1 ⟨y2, rfl, h⟩
  refine r_astore (pc := 7) (lv' := [(0, .inr (.inl (some 0))), (1, .inl a1), (2, .inl a2), (3, .inl a3)]) C d_C_store_7 (by decide) rfl ?_
  refine r_aload (pc := 9) C d_C_store_9 0 rfl ?_
  obtain ⟨o3, h⟩ := h
  refine r_cVi (pc := 11) (a' := 1) (b' := 6) (As := []) (ci := 5) C (c_I_isOld C.s hg h) o_I_isOld rfl (ok_O o3) (k_209 C.w) rfl ⟨by decide, by decide, by decide, by decide⟩ rfl rfl (Nat.le_of_ble_eq_true rfl) d_C_store_11 rfl ?_
  intro r5 μ4 h
  refine r_if_eq (tgt := 37) (pc := 14) C d_C_store_14 (by decide) ?_ ?_
  · intro hc; replace h := h.1 hc
    refine r_aload (pc := 37) C d_C_store_37 0 rfl ?_
    obtain ⟨o6, h⟩ := h
    refine r_getR (pc := 39) (ci := 5) C rfl 2 (by decide) (k_466 C.w) rfl (ok_O o6) d_C_store_39 ?_
    refine r_iload_n (pc := 42) C d_C_store_42 rfl 3 rfl ?_
    refine r_aload_n (pc := 43) C d_C_store_43 rfl 1 rfl ?_
    refine r_getR (pc := 44) (ci := 0) C rfl 0 (by decide) (k_106 C.w) rfl (lay_O hg rfl) d_C_store_44 ?_
    refine r_iload_n (pc := 47) C d_C_store_47 rfl 4 rfl ?_
    obtain ⟨b7, h⟩ := h
    refine r_aald (pc := 48) C (lay_A hg rfl) b7 d_C_store_48 ?_
    intro e8 he8; replace h := h e8 he8
    obtain ⟨o9, h⟩ := h
    obtain ⟨b10, h⟩ := h
    obtain ⟨o12, h⟩ := h
    refine r_aast (pc := 49) C (ok_A o9) b10 d_C_store_49 o12 ?_
    intro μ11 eμ11; replace h := h μ11 eμ11
    exact r_vret (pc := 50) C Q d_C_store_50 (by decide) (by decide) h
  · intro hc; replace h := h.2 hc
    refine r_aload (pc := 17) C d_C_store_17 0 rfl ?_
    obtain ⟨o13, h⟩ := h
    refine r_getR (pc := 19) (ci := 5) C rfl 3 (by decide) (k_469 C.w) rfl (ok_O o13) d_C_store_19 ?_
    refine r_iload_n (pc := 22) C d_C_store_22 rfl 3 rfl ?_
    obtain ⟨o14, h⟩ := h
    obtain ⟨b15, h⟩ := h
    refine r_zald (pc := 23) C (ok_A o14) b15 d_C_store_23 ?_
    refine r_if_ne (tgt := 37) (pc := 24) C d_C_store_24 (by decide) ?_ ?_
    · intro hc; replace h := h.2 hc
      refine r_aload (pc := 37) C d_C_store_37 0 rfl ?_
      refine r_getR (pc := 39) (ci := 5) C rfl 2 (by decide) (k_466 C.w) rfl (ok_O o13) d_C_store_39 ?_
      refine r_iload_n (pc := 42) C d_C_store_42 rfl 3 rfl ?_
      refine r_aload_n (pc := 43) C d_C_store_43 rfl 1 rfl ?_
      refine r_getR (pc := 44) (ci := 0) C rfl 0 (by decide) (k_106 C.w) rfl (lay_O hg rfl) d_C_store_44 ?_
      refine r_iload_n (pc := 47) C d_C_store_47 rfl 4 rfl ?_
      obtain ⟨b16, h⟩ := h
      refine r_aald (pc := 48) C (lay_A hg rfl) b16 d_C_store_48 ?_
      intro e17 he17; replace h := h e17 he17
      obtain ⟨o18, h⟩ := h
      obtain ⟨b19, h⟩ := h
      obtain ⟨o21, h⟩ := h
      refine r_aast (pc := 49) C (ok_A o18) b19 d_C_store_49 o21 ?_
      intro μ20 eμ20; replace h := h μ20 eμ20
      exact r_vret (pc := 50) C Q d_C_store_50 (by decide) (by decide) h
    · intro hc; replace h := h.1 hc
      refine r_aload_n (pc := 27) C d_C_store_27 rfl 1 rfl ?_
      refine r_getR (pc := 28) (ci := 0) C rfl 4 (by decide) (k_110 C.w) rfl (lay_O hg rfl) d_C_store_28 ?_
      refine r_aload (pc := 31) C d_C_store_31 0 rfl ?_
      refine r_iload_n (pc := 33) C d_C_store_33 rfl 3 rfl ?_
      refine r_cVv (pc := 34) (a' := 1) (b' := 6) (As := [.inr (.inl (some y2)), .inl a2]) (ci := 3) C (c_G_add C.s hg h) o_G_add rfl (lay_O hg rfl) (k_561 C.w) rfl ⟨by decide, by decide, by decide, by decide⟩ rfl rfl (Nat.le_of_ble_eq_true rfl) d_C_store_34 rfl ?_
      intro μ22 h
      refine r_aload (pc := 37) C d_C_store_37 0 rfl ?_
      obtain ⟨o23, h⟩ := h
      refine r_getR (pc := 39) (ci := 5) C rfl 2 (by decide) (k_466 C.w) rfl (ok_O o23) d_C_store_39 ?_
      refine r_iload_n (pc := 42) C d_C_store_42 rfl 3 rfl ?_
      refine r_aload_n (pc := 43) C d_C_store_43 rfl 1 rfl ?_
      refine r_getR (pc := 44) (ci := 0) C rfl 0 (by decide) (k_106 C.w) rfl (lay_O hg rfl) d_C_store_44 ?_
      refine r_iload_n (pc := 47) C d_C_store_47 rfl 4 rfl ?_
      obtain ⟨b24, h⟩ := h
      refine r_aald (pc := 48) C (lay_A hg rfl) b24 d_C_store_48 ?_
      intro e25 he25; replace h := h e25 he25
      obtain ⟨o26, h⟩ := h
      obtain ⟨b27, h⟩ := h
      obtain ⟨o29, h⟩ := h
      refine r_aast (pc := 49) C (ok_A o26) b27 d_C_store_49 o29 ?_
      intro μ28 eμ28; replace h := h μ28 eμ28
      exact r_vret (pc := 50) C Q d_C_store_50 (by decide) (by decide) h
theorem c_C_drain {l : Launch} (hl : l.stackTraces = false) {G : Gl} (hg : gf G = true) {a1 : Int32} {pe : Nat → Mem → Prop} {post : Int32 → Mem → Prop} {μ : Mem} (h : wC_drain a1 pe post μ) : Ct l G i_C_drain [.inr (.inl (some 0)), .inl a1] μ (poI post) pe := by
  refine ct_of hl (by decide) (Nat.le_of_ble_eq_true rfl) ?_
  intro K hKl C Q hE
  clear hl hKl
  replace C : Cx K G prog_1_method_7_code "LineCollector" 2 { frames := 6, cells := 1, slots := 6, locals := 108 } := C
  replace Q : Cq K G { frames := 6, cells := 1, slots := 6, locals := 108 } (some .int) (poI post) pe := Q
  show Rn K G 2 0 [(0, .inr (.inl (some 0))), (1, .inl a1)] [] μ 0 0
  unfold wC_drain at h
  refine r_iload_n (pc := 0) C d_C_drain_0 rfl 1 rfl ?_
  refine r_if_ge (tgt := 12) (pc := 1) C d_C_drain_1 (by decide) ?_ ?_
  · intro hc; replace h := h.1 hc
    refine r_aload_n (pc := 12) C d_C_drain_12 rfl 0 rfl ?_
    refine r_iload_n (pc := 13) C d_C_drain_13 rfl 1 rfl ?_
    refine r_cVv (pc := 14) (a' := 0) (b' := 0) (As := [.inl a1]) (ci := 0) C (c_C_drainUpTo C.s hg h) o_C_drainUpTo rfl (lay_O hg rfl) (k_145 C.w) rfl ⟨by decide, by decide, by decide, by decide⟩ rfl rfl (Nat.le_of_ble_eq_true rfl) d_C_drain_14 rfl ?_
    intro μ1 h
    refine r_aload_n (pc := 17) C d_C_drain_17 rfl 0 rfl ?_
    refine r_getR (pc := 18) (ci := 0) C rfl 5 (by decide) (k_111 C.w) rfl (lay_O hg rfl) d_C_drain_18 ?_
    refine r_getI (pc := 21) (ci := 4) C rfl 2 (by decide) (k_98 C.w) rfl (lay_O hg rfl) d_C_drain_21 ?_
    exact r_iret (pc := 24) C Q d_C_drain_24 (by decide) (by decide) h
  · intro hc; replace h := h.2 hc
    exact r_throw (pc := 4) C Q hE (q := 7) rfl (by decide +kernel) (k_358 C.w) x_ins7 x_ini7 (x_C_51) d_C_drain_4 d_C_drain_7 d_C_drain_8 d_C_drain_11 ⟨by decide, by decide, by decide, by decide⟩ h
theorem c_C_trace {l : Launch} (hl : l.stackTraces = false) {G : Gl} (hg : gf G = true) {a1 : Int32} {pe : Nat → Mem → Prop} {post : Int32 → Mem → Prop} {μ : Mem} (h : wC_trace a1 pe post μ) : Ct l G i_C_trace [.inr (.inl (some 0)), .inl a1] μ (poI post) pe := by
  refine ct_of hl (by decide) (Nat.le_of_ble_eq_true rfl) ?_
  intro K hKl C Q hE
  clear hl hKl
  replace C : Cx K G prog_1_method_8_code "LineCollector" 2 { frames := 6, cells := 1, slots := 6, locals := 131 } := C
  replace Q : Cq K G { frames := 6, cells := 1, slots := 6, locals := 131 } (some .int) (poI post) pe := Q
  show Rn K G 2 0 [(0, .inr (.inl (some 0))), (1, .inl a1)] [] μ 0 0
  unfold wC_trace at h
  refine r_iload_n (pc := 0) C d_C_trace_0 rfl 1 rfl ?_
  refine r_if_ge (tgt := 12) (pc := 1) C d_C_trace_1 (by decide) ?_ ?_
  · intro hc; replace h := h.1 hc
    refine r_aload_n (pc := 12) C d_C_trace_12 rfl 0 rfl ?_
    refine r_getI (pc := 13) (ci := 0) C rfl 7 (by decide) (k_113 C.w) rfl (lay_O hg rfl) d_C_trace_13 ?_
    refine r_if_ne (tgt := 27) (pc := 16) C d_C_trace_16 (by decide) ?_ ?_
    · intro hc; replace h := h.2 hc
      refine r_aload_n (pc := 27) C d_C_trace_27 rfl 0 rfl ?_
      refine r_iload_n (pc := 28) C d_C_trace_28 rfl 1 rfl ?_
      refine r_cVv (pc := 29) (a' := 0) (b' := 0) (As := [.inl a1]) (ci := 0) C (c_C_stepUpTo C.s hg h) o_C_stepUpTo rfl (lay_O hg rfl) (k_428 C.w) rfl ⟨by decide, by decide, by decide, by decide⟩ rfl rfl (Nat.le_of_ble_eq_true rfl) d_C_trace_29 rfl ?_
      intro μ1 h
      refine r_aload_n (pc := 32) C d_C_trace_32 rfl 0 rfl ?_
      refine r_cVi (pc := 33) (a' := 0) (b' := 0) (As := []) (ci := 0) C (c_C_countGrey C.s hg h) o_C_countGrey rfl (lay_O hg rfl) (k_289 C.w) rfl ⟨by decide, by decide, by decide, by decide⟩ rfl rfl (Nat.le_of_ble_eq_true rfl) d_C_trace_33 rfl ?_
      intro r3 μ2 h
      exact r_iret (pc := 36) C Q d_C_trace_36 (by decide) (by decide) h
    · intro hc; replace h := h.1 hc
      exact r_throw (pc := 19) C Q hE (q := 8) rfl (by decide +kernel) (k_517 C.w) x_ins8 x_ini8 (x_C_105) d_C_trace_19 d_C_trace_22 d_C_trace_23 d_C_trace_26 ⟨by decide, by decide, by decide, by decide⟩ h
  · intro hc; replace h := h.2 hc
    exact r_throw (pc := 4) C Q hE (q := 7) rfl (by decide +kernel) (k_358 C.w) x_ins7 x_ini7 (x_C_51) d_C_trace_4 d_C_trace_7 d_C_trace_8 d_C_trace_11 ⟨by decide, by decide, by decide, by decide⟩ h
theorem c_C_root {l : Launch} (hl : l.stackTraces = false) {G : Gl} (hg : gf G = true) {a1 : Int32} {pe : Nat → Mem → Prop} {post : Int32 → Mem → Prop} {μ : Mem} (h : wC_root a1 pe post μ) : Ct l G i_C_root [.inr (.inl (some 0)), .inl a1] μ (poI post) pe := by
  refine ct_of hl (by decide) (Nat.le_of_ble_eq_true rfl) ?_
  intro K hKl C Q hE
  clear hl hKl
  replace C : Cx K G prog_1_method_10_code "LineCollector" 2 { frames := 6, cells := 1, slots := 6, locals := 81 } := C
  replace Q : Cq K G { frames := 6, cells := 1, slots := 6, locals := 81 } (some .int) (poI post) pe := Q
  show Rn K G 2 0 [(0, .inr (.inl (some 0))), (1, .inl a1)] [] μ 0 0
  unfold wC_root at h
  refine r_iload_n (pc := 0) C d_C_root_0 rfl 1 rfl ?_
  refine r_cSi (pc := 1) (a' := 0) (b' := 0) (As := [.inl a1]) C (c_C_isRoot C.s hg h) o_C_isRoot (k_355 C.w) rfl ⟨by decide, by decide, by decide, by decide⟩ rfl rfl (Nat.le_of_ble_eq_true rfl) d_C_root_1 rfl ?_
  intro r2 μ1 h
  refine r_if_ne (tgt := 15) (pc := 4) C d_C_root_4 (by decide) ?_ ?_
  · intro hc; replace h := h.2 hc
    refine r_aload_n (pc := 15) C d_C_root_15 rfl 0 rfl ?_
    refine r_getR (pc := 16) (ci := 0) C rfl 0 (by decide) (k_106 C.w) rfl (lay_O hg rfl) d_C_root_16 ?_
    refine r_iload_n (pc := 19) C d_C_root_19 rfl 1 rfl ?_
    obtain ⟨b3, h⟩ := h
    refine r_aald (pc := 20) C (lay_A hg rfl) b3 d_C_root_20 ?_
    intro e4 he4; replace h := h e4 he4
    refine r_cSi (pc := 21) (a' := 0) (b' := 0) (As := [.inr (.inl e4)]) C (c_C_addressOf C.s hg h) o_C_addressOf (k_551 C.w) rfl ⟨by decide, by decide, by decide, by decide⟩ rfl rfl (Nat.le_of_ble_eq_true rfl) d_C_root_21 rfl ?_
    intro r6 μ5 h
    exact r_iret (pc := 24) C Q d_C_root_24 (by decide) (by decide) h
  · intro hc; replace h := h.1 hc
    exact r_throw (pc := 7) C Q hE (q := 7) rfl (by decide +kernel) (k_358 C.w) x_ins7 x_ini7 (x_C_51) d_C_root_7 d_C_root_10 d_C_root_11 d_C_root_14 ⟨by decide, by decide, by decide, by decide⟩ h
theorem c_C_itemOrNull {l : Launch} (hl : l.stackTraces = false) {G : Gl} (hg : gf G = true) {a1 : Int32} {post : Option Nat → Mem → Prop} {μ : Mem} (h : wC_itemOrNull a1 post μ) : Ct l G i_C_itemOrNull [.inr (.inl (some 0)), .inl a1] μ (poQ G post) noX := by
  refine ct_of hl (by decide) (Nat.le_of_ble_eq_true rfl) ?_
  intro K hKl C Q hE
  clear hl hKl
  replace C : Cx K G prog_1_method_18_code "LineCollector" 2 { frames := 0, cells := 0, slots := 0, locals := 0 } := C
  replace Q : Cq K G { frames := 0, cells := 0, slots := 0, locals := 0 } (some (.object "LineCollector$Item")) (poQ G post) noX := Q
  show Rn K G 2 0 [(0, .inr (.inl (some 0))), (1, .inl a1)] [] μ 0 0
  unfold wC_itemOrNull at h
  refine r_iload_n (pc := 0) C d_C_itemOrNull_0 rfl 1 rfl ?_
  refine r_if_lt (tgt := 20) (pc := 1) C d_C_itemOrNull_1 (by decide) ?_ ?_
  · intro hc; replace h := h.1 hc
    refine r_null (pc := 20) C d_C_itemOrNull_20 ?_
    exact r_aret (pc := 21) C Q d_C_itemOrNull_21 (by decide) (by decide) h
  · intro hc; replace h := h.2 hc
    refine r_iload_n (pc := 4) C d_C_itemOrNull_4 rfl 1 rfl ?_
    refine r_sipush (pc := 5) C d_C_itemOrNull_5 (v := 128) (by decide) ?_
    refine r_icmp_ge (tgt := 20) (pc := 8) C d_C_itemOrNull_8 (by decide) ?_ ?_
    · intro hc; replace h := h.1 hc
      refine r_null (pc := 20) C d_C_itemOrNull_20 ?_
      exact r_aret (pc := 21) C Q d_C_itemOrNull_21 (by decide) (by decide) h
    · intro hc; replace h := h.2 hc
      refine r_aload_n (pc := 11) C d_C_itemOrNull_11 rfl 0 rfl ?_
      refine r_getR (pc := 12) (ci := 0) C rfl 2 (by decide) (k_108 C.w) rfl (lay_O hg rfl) d_C_itemOrNull_12 ?_
      refine r_iload_n (pc := 15) C d_C_itemOrNull_15 rfl 1 rfl ?_
      obtain ⟨b1, h⟩ := h
      refine r_aald (pc := 16) C (lay_A hg rfl) b1 d_C_itemOrNull_16 ?_
      intro e2 he2; replace h := h e2 he2
      refine r_goto (tgt := 21) (pc := 17) C d_C_itemOrNull_17 (by decide) ?_
      exact r_aret (pc := 21) C Q d_C_itemOrNull_21 (by decide) (by decide) h
theorem c_C_field {l : Launch} (hl : l.stackTraces = false) {G : Gl} (hg : gf G = true) {a1 : Int32} {a2 : Int32} {pe : Nat → Mem → Prop} {post : Int32 → Mem → Prop} {μ : Mem} (h : wC_field a1 a2 pe post μ) : Ct l G i_C_field [.inr (.inl (some 0)), .inl a1, .inl a2] μ (poI post) pe := by
  refine ct_of hl (by decide) (Nat.le_of_ble_eq_true rfl) ?_
  intro K hKl C Q hE
  clear hl hKl
  replace C : Cx K G prog_1_method_11_code "LineCollector" 4 { frames := 6, cells := 1, slots := 6, locals := 81 } := C
  replace Q : Cq K G { frames := 6, cells := 1, slots := 6, locals := 81 } (some .int) (poI post) pe := Q
  show Rn K G 4 0 [(0, .inr (.inl (some 0))), (1, .inl a1), (2, .inl a2)] [] μ 0 0
  unfold wC_field at h
  refine r_aload_n (pc := 0) C d_C_field_0 rfl 0 rfl ?_
  refine r_iload_n (pc := 1) C d_C_field_1 rfl 1 rfl ?_
  refine r_cVq (pc := 2) (a' := 0) (b' := 0) (As := [.inl a1]) (ci := 0) C (c_C_itemOrNull C.s hg h) o_C_itemOrNull rfl (lay_O hg rfl) (k_594 C.w) rfl ⟨by decide, by decide, by decide, by decide⟩ rfl rfl (Nat.le_of_ble_eq_true rfl) d_C_field_2 rfl ?_
  intro r2 μ1 h
  refine r_astore_n (pc := 5) (lv' := [(0, .inr (.inl (some 0))), (1, .inl a1), (2, .inl a2)]) C d_C_field_5 rfl (by decide) rfl ?_
  refine r_aload_n (pc := 6) C d_C_field_6 rfl 0 rfl ?_
  refine r_ifnonnull (tgt := 18) (pc := 7) C d_C_field_7 (by decide) ?_ ?_
  · intro y3 h0; subst h0; replace h := h.2 y3 rfl
    refine r_aload_n (pc := 18) C d_C_field_18 rfl 0 rfl ?_
    refine r_iload_n (pc := 19) C d_C_field_19 rfl 3 rfl ?_
    obtain ⟨o4, h⟩ := h
    refine r_cVi (pc := 20) (a' := 0) (b' := 0) (As := [.inl a2]) (ci := 5) C (c_I_hasField C.s hg h) o_I_hasField rfl (ok_O o4) (k_532 C.w) rfl ⟨by decide, by decide, by decide, by decide⟩ rfl rfl (Nat.le_of_ble_eq_true rfl) d_C_field_20 rfl ?_
    intro r6 μ5 h
    refine r_if_ne (tgt := 34) (pc := 23) C d_C_field_23 (by decide) ?_ ?_
    · intro hc; replace h := h.2 hc
      refine r_aload_n (pc := 34) C d_C_field_34 rfl 0 rfl ?_
      obtain ⟨o7, h⟩ := h
      refine r_getR (pc := 35) (ci := 5) C rfl 2 (by decide) (k_466 C.w) rfl (ok_O o7) d_C_field_35 ?_
      refine r_iload_n (pc := 38) C d_C_field_38 rfl 3 rfl ?_
      obtain ⟨o8, h⟩ := h
      obtain ⟨b9, h⟩ := h
      refine r_aald (pc := 39) C (ok_A o8) b9 d_C_field_39 ?_
      intro e10 he10; replace h := h e10 he10
      refine r_cSi (pc := 40) (a' := 0) (b' := 0) (As := [.inr (.inl e10)]) C (c_C_addressOf C.s hg h) o_C_addressOf (k_551 C.w) rfl ⟨by decide, by decide, by decide, by decide⟩ rfl rfl (Nat.le_of_ble_eq_true rfl) d_C_field_40 rfl ?_
      intro r12 μ11 h
      exact r_iret (pc := 43) C Q d_C_field_43 (by decide) (by decide) h
    · intro hc; replace h := h.1 hc
      exact r_throw (pc := 26) C Q hE (q := 9) rfl (by decide +kernel) (k_536 C.w) x_ins9 x_ini9 (x_C_159) d_C_field_26 d_C_field_29 d_C_field_30 d_C_field_33 ⟨by decide, by decide, by decide, by decide⟩ h
  · intro h0; subst h0; replace h := h.1 rfl
    exact r_throw (pc := 10) C Q hE (q := 11) rfl (by decide +kernel) (k_598 C.w) x_ins11 x_ini11 (x_C_153) d_C_field_10 d_C_field_13 d_C_field_14 d_C_field_17 ⟨by decide, by decide, by decide, by decide⟩ h
theorem c_C_object {l : Launch} (hl : l.stackTraces = false) {G : Gl} (hg : gf G = true) {a1 : Int32} {a2 : Int32} {pe : Nat → Mem → Prop} {post : Int32 → Mem → Prop} {μ : Mem} (h : wC_object a1 a2 pe post μ) : Ct l G i_C_object [.inr (.inl (some 0)), .inl a1, .inl a2] μ (poI post) pe := by
  refine ct_of hl (by decide) (Nat.le_of_ble_eq_true rfl) ?_
  intro K hKl C Q hE
  clear hl hKl
  replace C : Cx K G prog_1_method_12_code "LineCollector" 4 { frames := 6, cells := 1, slots := 6, locals := 81 } := C
  replace Q : Cq K G { frames := 6, cells := 1, slots := 6, locals := 81 } (some .int) (poI post) pe := Q
  show Rn K G 4 0 [(0, .inr (.inl (some 0))), (1, .inl a1), (2, .inl a2)] [] μ 0 0
  unfold wC_object at h
  refine r_iload_n (pc := 0) C d_C_object_0 rfl 2 rfl ?_
  refine r_if_lt (tgt := 9) (pc := 1) C d_C_object_1 (by decide) ?_ ?_
  · intro hc; replace h := h.1 hc
    exact r_throw (pc := 9) C Q hE (q := 7) rfl (by decide +kernel) (k_358 C.w) x_ins7 x_ini7 (x_C_51) d_C_object_9 d_C_object_12 d_C_object_13 d_C_object_16 ⟨by decide, by decide, by decide, by decide⟩ h
  · intro hc; replace h := h.2 hc
    refine r_iload_n (pc := 4) C d_C_object_4 rfl 2 rfl ?_
    refine r_iconst (pc := 5) C d_C_object_5 (v := 3) (by decide) ?_
    refine r_icmp_le (tgt := 17) (pc := 6) C d_C_object_6 (by decide) ?_ ?_
    · intro hc; replace h := h.1 hc
      refine r_aload_n (pc := 17) C d_C_object_17 rfl 0 rfl ?_
      refine r_iload_n (pc := 18) C d_C_object_18 rfl 1 rfl ?_
      refine r_cVq (pc := 19) (a' := 0) (b' := 0) (As := [.inl a1]) (ci := 0) C (c_C_itemOrNull C.s hg h) o_C_itemOrNull rfl (lay_O hg rfl) (k_594 C.w) rfl ⟨by decide, by decide, by decide, by decide⟩ rfl rfl (Nat.le_of_ble_eq_true rfl) d_C_object_19 rfl ?_
      intro r2 μ1 h
      refine r_astore_n (pc := 22) (lv' := [(0, .inr (.inl (some 0))), (1, .inl a1), (2, .inl a2)]) C d_C_object_22 rfl (by decide) rfl ?_
      refine r_aload_n (pc := 23) C d_C_object_23 rfl 0 rfl ?_
      refine r_ifnonnull (tgt := 35) (pc := 24) C d_C_object_24 (by decide) ?_ ?_
      · intro y3 h0; subst h0; replace h := h.2 y3 rfl
        refine r_iload_n (pc := 35) C d_C_object_35 rfl 3 rfl ?_
        by_cases hs0 : a2 = 0
        · replace h := h.1 hs0
          refine r_tin (tgt := 64) (pc := 36) C d_C_object_36 hs0 (by decide) (by decide) (by rfl) (by decide) ?_
          refine r_aload_n (pc := 64) C d_C_object_64 rfl 0 rfl ?_
          obtain ⟨o4, h⟩ := h
          refine r_getI (pc := 65) (ci := 5) C rfl 0 (by decide) (k_461 C.w) rfl (ok_O o4) d_C_object_65 ?_
          exact r_iret (pc := 68) C Q d_C_object_68 (by decide) (by decide) h
        by_cases hs1 : a2 = 1
        · replace h := h.2.1 hs1
          refine r_tin (tgt := 69) (pc := 36) C d_C_object_36 hs1 (by decide) (by decide) (by rfl) (by decide) ?_
          refine r_aload_n (pc := 69) C d_C_object_69 rfl 0 rfl ?_
          obtain ⟨o5, h⟩ := h
          refine r_getI (pc := 70) (ci := 5) C rfl 1 (by decide) (k_463 C.w) rfl (ok_O o5) d_C_object_70 ?_
          exact r_iret (pc := 73) C Q d_C_object_73 (by decide) (by decide) h
        by_cases hs2 : a2 = 2
        · replace h := h.2.2.1 hs2
          refine r_tin (tgt := 74) (pc := 36) C d_C_object_36 hs2 (by decide) (by decide) (by rfl) (by decide) ?_
          refine r_aload_n (pc := 74) C d_C_object_74 rfl 0 rfl ?_
          obtain ⟨o6, h⟩ := h
          refine r_getI (pc := 75) (ci := 5) C rfl 5 (by decide) (k_472 C.w) rfl (ok_O o6) d_C_object_75 ?_
          exact r_iret (pc := 78) C Q d_C_object_78 (by decide) (by decide) h
        replace h := h.2.2.2 hs0 hs1 hs2
        refine r_tout (tgt := 79) (N := 2) (pc := 36) C d_C_object_36 (by decide) (fun n hn => ?_) (by decide) ?_
        · match n, hn with
          | 0, _ => exact hs0
          | 1, _ => exact hs1
          | 2, _ => exact hs2
          | n + 3, hn => exact absurd hn (by omega)
        refine r_aload_n (pc := 79) C d_C_object_79 rfl 0 rfl ?_
        obtain ⟨o7, h⟩ := h
        refine r_getI (pc := 80) (ci := 5) C rfl 6 (by decide) (k_474 C.w) rfl (ok_O o7) d_C_object_80 ?_
        exact r_iret (pc := 83) C Q d_C_object_83 (by decide) (by decide) h
      · intro h0; subst h0; replace h := h.1 rfl
        exact r_throw (pc := 27) C Q hE (q := 11) rfl (by decide +kernel) (k_598 C.w) x_ins11 x_ini11 (x_C_153) d_C_object_27 d_C_object_30 d_C_object_31 d_C_object_34 ⟨by decide, by decide, by decide, by decide⟩ h
    · intro hc; replace h := h.2 hc
      exact r_throw (pc := 9) C Q hE (q := 7) rfl (by decide +kernel) (k_358 C.w) x_ins7 x_ini7 (x_C_51) d_C_object_9 d_C_object_12 d_C_object_13 d_C_object_16 ⟨by decide, by decide, by decide, by decide⟩ h
theorem c_C_line {l : Launch} (hl : l.stackTraces = false) {G : Gl} (hg : gf G = true) {a1 : Int32} {pe : Nat → Mem → Prop} {post : Int32 → Mem → Prop} {μ : Mem} (h : wC_line a1 pe post μ) : Ct l G i_C_line [.inr (.inl (some 0)), .inl a1] μ (poI post) pe := by
  refine ct_of hl (by decide) (Nat.le_of_ble_eq_true rfl) ?_
  intro K hKl C Q hE
  clear hl hKl
  replace C : Cx K G prog_1_method_13_code "LineCollector" 2 { frames := 6, cells := 1, slots := 6, locals := 81 } := C
  replace Q : Cq K G { frames := 6, cells := 1, slots := 6, locals := 81 } (some .int) (poI post) pe := Q
  show Rn K G 2 0 [(0, .inr (.inl (some 0))), (1, .inl a1)] [] μ 0 0
  unfold wC_line at h
  refine r_iload_n (pc := 0) C d_C_line_0 rfl 1 rfl ?_
  refine r_if_lt (tgt := 10) (pc := 1) C d_C_line_1 (by decide) ?_ ?_
  · intro hc; replace h := h.1 hc
    exact r_throw (pc := 10) C Q hE (q := 9) rfl (by decide +kernel) (k_536 C.w) x_ins9 x_ini9 (x_C_159) d_C_line_10 d_C_line_13 d_C_line_14 d_C_line_17 ⟨by decide, by decide, by decide, by decide⟩ h
  · intro hc; replace h := h.2 hc
    refine r_iload_n (pc := 4) C d_C_line_4 rfl 1 rfl ?_
    refine r_bipush (pc := 5) C d_C_line_5 (v := 32) (by decide) ?_
    refine r_icmp_lt (tgt := 18) (pc := 7) C d_C_line_7 (by decide) ?_ ?_
    · intro hc; replace h := h.1 hc
      refine r_aload_n (pc := 18) C d_C_line_18 rfl 0 rfl ?_
      refine r_getR (pc := 19) (ci := 0) C rfl 3 (by decide) (k_109 C.w) rfl (lay_O hg rfl) d_C_line_19 ?_
      refine r_iload_n (pc := 22) C d_C_line_22 rfl 1 rfl ?_
      refine r_cVi (pc := 23) (a' := 0) (b' := 0) (As := [.inl a1]) (ci := 1) C (c_P_isUsed C.s hg h) o_P_isUsed rfl (lay_O hg rfl) (k_627 C.w) rfl ⟨by decide, by decide, by decide, by decide⟩ rfl rfl (Nat.le_of_ble_eq_true rfl) d_C_line_23 rfl ?_
      intro r2 μ1 h
      refine r_if_eq (tgt := 31) (pc := 26) C d_C_line_26 (by decide) ?_ ?_
      · intro hc; replace h := h.1 hc
        refine r_aload_n (pc := 31) C d_C_line_31 rfl 0 rfl ?_
        refine r_getR (pc := 32) (ci := 0) C rfl 3 (by decide) (k_109 C.w) rfl (lay_O hg rfl) d_C_line_32 ?_
        refine r_iload_n (pc := 35) C d_C_line_35 rfl 1 rfl ?_
        refine r_cVi (pc := 36) (a' := 0) (b' := 0) (As := [.inl a1]) (ci := 1) C (c_P_isFree C.s hg h) o_P_isFree rfl (lay_O hg rfl) (k_628 C.w) rfl ⟨by decide, by decide, by decide, by decide⟩ rfl rfl (Nat.le_of_ble_eq_true rfl) d_C_line_36 rfl ?_
        intro r4 μ3 h
        refine r_if_eq (tgt := 46) (pc := 39) C d_C_line_39 (by decide) ?_ ?_
        · intro hc; replace h := h.1 hc
          refine r_iconst (pc := 46) C d_C_line_46 (v := 2) (by decide) ?_
          exact r_iret (pc := 47) C Q d_C_line_47 (by decide) (by decide) h
        · intro hc; replace h := h.2 hc
          refine r_iconst (pc := 42) C d_C_line_42 (v := 0) (by decide) ?_
          refine r_goto (tgt := 47) (pc := 43) C d_C_line_43 (by decide) ?_
          exact r_iret (pc := 47) C Q d_C_line_47 (by decide) (by decide) h
      · intro hc; replace h := h.2 hc
        refine r_iconst (pc := 29) C d_C_line_29 (v := 1) (by decide) ?_
        exact r_iret (pc := 30) C Q d_C_line_30 (by decide) (by decide) h
    · intro hc; replace h := h.2 hc
      exact r_throw (pc := 10) C Q hE (q := 9) rfl (by decide +kernel) (k_536 C.w) x_ins9 x_ini9 (x_C_159) d_C_line_10 d_C_line_13 d_C_line_14 d_C_line_17 ⟨by decide, by decide, by decide, by decide⟩ h
theorem c_C_countItems {l : Launch} (hl : l.stackTraces = false) {G : Gl} (hg : gf G = true) {post : Int32 → Mem → Prop} {μ : Mem} (h : wC_countItems post μ) : Ct l G i_C_countItems [.inr (.inl (some 0))] μ (poI post) noX := by
  refine ct_of hl (by decide) (Nat.le_of_ble_eq_true rfl) ?_
  intro K hKl C Q hE
  clear hl hKl
  replace C : Cx K G prog_1_method_19_code "LineCollector" 6 { frames := 0, cells := 0, slots := 0, locals := 0 } := C
  replace Q : Cq K G { frames := 0, cells := 0, slots := 0, locals := 0 } (some .int) (poI post) noX := Q
  show Rn K G 6 0 [(0, .inr (.inl (some 0)))] [] μ 0 0
  have L_13 : ∀ (l3 : Int32) (k : Int32 → Int32 → Mem → Prop), (∀ (v1 : Int32) (v4 : Int32) (μ : Mem), k v1 v4 μ → Rn K G 6 39 [(1, .inl v1)] [] μ 0 0) → ∀ (n : Nat) (l1 : Int32) (l4 : Int32) (μ : Mem), wC_countItems_13 l3 k n l1 l4 μ → Rn K G 6 13 [(1, .inl l1), (2, .inr (.inl (some 3))), (3, .inl l3), (4, .inl l4)] [] μ 0 0 := by
    intro l3 k hk n
    induction n with
    | zero => intro l1 l4 μ h; exact h.elim
    | succ n ih =>
      intro l1 l4 μ h
      unfold wC_countItems_13 at h
      refine r_iload (pc := 13) C d_C_countItems_13 3 rfl ?_
      refine r_iload_n (pc := 15) C d_C_countItems_15 rfl 2 rfl ?_
      refine r_icmp_ge (tgt := 39) (pc := 16) C d_C_countItems_16 (by decide) ?_ ?_
      · intro hc; replace h := h.1 hc
        refine r_sub [0] rfl ?_
        exact hk l1 l4 μ h
      · intro hc; replace h := h.2 hc
        refine r_aload_n (pc := 19) C d_C_countItems_19 rfl 1 rfl ?_
        refine r_iload (pc := 20) C d_C_countItems_20 3 rfl ?_
        obtain ⟨b1, h⟩ := h
        refine r_aald (pc := 22) C (lay_A hg rfl) b1 d_C_countItems_22 ?_
        intro e2 he2; replace h := h e2 he2
        refine r_astore (pc := 23) (lv' := [(1, .inl l1), (2, .inr (.inl (some 3))), (3, .inl l3), (4, .inl l4)]) C d_C_countItems_23 (by decide) rfl ?_
        refine r_aload (pc := 25) C d_C_countItems_25 0 rfl ?_
        refine r_ifnull (tgt := 33) (pc := 27) C d_C_countItems_27 (by decide) ?_ ?_
        · intro h0; subst h0; replace h := h.1 rfl
          refine r_iinc (pc := 33) (v := 1) (lv' := [(5, .inr (.inl none)), (1, .inl l1), (2, .inr (.inl (some 3))), (3, .inl l3)]) C d_C_countItems_33 4 rfl (by decide) (by decide) rfl ?_
          refine r_goto (tgt := 13) (pc := 36) C d_C_countItems_36 (by decide) ?_
          refine r_sub [2, 3, 4, 0] rfl ?_
          exact ih l1 (l4 + 1) μ h
        · intro y3 h0; subst h0; replace h := h.2 y3 rfl
          refine r_iinc (pc := 30) (v := 1) (lv' := [(5, .inr (.inl (some y3))), (2, .inr (.inl (some 3))), (3, .inl l3), (4, .inl l4)]) C d_C_countItems_30 1 rfl (by decide) (by decide) rfl ?_
          refine r_iinc (pc := 33) (v := 1) (lv' := [(1, .inl (l1 + 1)), (5, .inr (.inl (some y3))), (2, .inr (.inl (some 3))), (3, .inl l3)]) C d_C_countItems_33 4 rfl (by decide) (by decide) rfl ?_
          refine r_goto (tgt := 13) (pc := 36) C d_C_countItems_36 (by decide) ?_
          refine r_sub [1, 3, 4, 0] rfl ?_
          exact ih (l1 + 1) (l4 + 1) μ h
  unfold wC_countItems at h
  refine r_iconst (pc := 0) C d_C_countItems_0 (v := 0) (by decide) ?_
  refine r_istore_n (pc := 1) (lv' := [(0, .inr (.inl (some 0)))]) C d_C_countItems_1 rfl (by decide) rfl ?_
  refine r_aload_n (pc := 2) C d_C_countItems_2 rfl 1 rfl ?_
  refine r_getR (pc := 3) (ci := 0) C rfl 2 (by decide) (k_108 C.w) rfl (lay_O hg rfl) d_C_countItems_3 ?_
  refine r_astore_n (pc := 6) (lv' := [(1, .inl 0), (0, .inr (.inl (some 0)))]) C d_C_countItems_6 rfl (by decide) rfl ?_
  refine r_aload_n (pc := 7) C d_C_countItems_7 rfl 0 rfl ?_
  refine r_alenQ (pc := 8) (v := 128) C (lay_A hg rfl) (by decide) d_C_countItems_8 ?_
  refine r_istore_n (pc := 9) (lv' := [(2, .inr (.inl (some 3))), (1, .inl 0), (0, .inr (.inl (some 0)))]) C d_C_countItems_9 rfl (by decide) rfl ?_
  refine r_iconst (pc := 10) C d_C_countItems_10 (v := 0) (by decide) ?_
  refine r_istore (pc := 11) (lv' := [(3, .inl 128), (2, .inr (.inl (some 3))), (1, .inl 0), (0, .inr (.inl (some 0)))]) C d_C_countItems_11 (by decide) rfl ?_
  obtain ⟨n7, h⟩ := h
  refine r_sub [3, 2, 1, 0] rfl ?_
  refine L_13 128 _ ?_ n7 0 0 μ h
  intro v5 v6 μ4 h
  refine r_iload_n (pc := 39) C d_C_countItems_39 rfl 0 rfl ?_
  exact r_iret (pc := 40) C Q d_C_countItems_40 (by decide) (by decide) h
theorem c_C_countYoung {l : Launch} (hl : l.stackTraces = false) {G : Gl} (hg : gf G = true) {post : Int32 → Mem → Prop} {μ : Mem} (h : wC_countYoung post μ) : Ct l G i_C_countYoung [.inr (.inl (some 0))] μ (poI post) noX := by
  refine ct_of hl (by decide) (Nat.le_of_ble_eq_true rfl) ?_
  intro K hKl C Q hE
  clear hl hKl
  replace C : Cx K G prog_1_method_20_code "LineCollector" 6 { frames := 1, cells := 0, slots := 0, locals := 20 } := C
  replace Q : Cq K G { frames := 1, cells := 0, slots := 0, locals := 20 } (some .int) (poI post) noX := Q
  show Rn K G 6 0 [(0, .inr (.inl (some 0)))] [] μ 0 0
  have L_13 : ∀ (l3 : Int32) (k : Int32 → Int32 → Mem → Prop), (∀ (v1 : Int32) (v4 : Int32) (μ : Mem), k v1 v4 μ → Rn K G 6 47 [(1, .inl v1)] [] μ 0 0) → ∀ (n : Nat) (l1 : Int32) (l4 : Int32) (μ : Mem), wC_countYoung_13 l3 k n l1 l4 μ → Rn K G 6 13 [(1, .inl l1), (2, .inr (.inl (some 3))), (3, .inl l3), (4, .inl l4)] [] μ 0 0 := by
    intro l3 k hk n
    induction n with
    | zero => intro l1 l4 μ h; exact h.elim
    | succ n ih =>
      intro l1 l4 μ h
      unfold wC_countYoung_13 at h
      refine r_iload (pc := 13) C d_C_countYoung_13 3 rfl ?_
      refine r_iload_n (pc := 15) C d_C_countYoung_15 rfl 2 rfl ?_
      refine r_icmp_ge (tgt := 47) (pc := 16) C d_C_countYoung_16 (by decide) ?_ ?_
      · intro hc; replace h := h.1 hc
        refine r_sub [0] rfl ?_
        exact hk l1 l4 μ h
      · intro hc; replace h := h.2 hc
        refine r_aload_n (pc := 19) C d_C_countYoung_19 rfl 1 rfl ?_
        refine r_iload (pc := 20) C d_C_countYoung_20 3 rfl ?_
        obtain ⟨b1, h⟩ := h
        refine r_aald (pc := 22) C (lay_A hg rfl) b1 d_C_countYoung_22 ?_
        intro e2 he2; replace h := h e2 he2
        refine r_astore (pc := 23) (lv' := [(1, .inl l1), (2, .inr (.inl (some 3))), (3, .inl l3), (4, .inl l4)]) C d_C_countYoung_23 (by decide) rfl ?_
        refine r_aload (pc := 25) C d_C_countYoung_25 0 rfl ?_
        refine r_ifnull (tgt := 41) (pc := 27) C d_C_countYoung_27 (by decide) ?_ ?_
        · intro h0; subst h0; replace h := h.1 rfl
          refine r_iinc (pc := 41) (v := 1) (lv' := [(5, .inr (.inl none)), (1, .inl l1), (2, .inr (.inl (some 3))), (3, .inl l3)]) C d_C_countYoung_41 4 rfl (by decide) (by decide) rfl ?_
          refine r_goto (tgt := 13) (pc := 44) C d_C_countYoung_44 (by decide) ?_
          refine r_sub [2, 3, 4, 0] rfl ?_
          exact ih l1 (l4 + 1) μ h
        · intro y3 h0; subst h0; replace h := h.2 y3 rfl
          refine r_aload (pc := 30) C d_C_countYoung_30 0 rfl ?_
          obtain ⟨o4, h⟩ := h
          refine r_cVi (pc := 32) (a' := 0) (b' := 0) (As := []) (ci := 5) C (c_I_isOld C.s hg h) o_I_isOld rfl (ok_O o4) (k_209 C.w) rfl ⟨by decide, by decide, by decide, by decide⟩ rfl rfl (Nat.le_of_ble_eq_true rfl) d_C_countYoung_32 rfl ?_
          intro r6 μ5 h
          refine r_if_ne (tgt := 41) (pc := 35) C d_C_countYoung_35 (by decide) ?_ ?_
          · intro hc; replace h := h.2 hc
            refine r_iinc (pc := 41) (v := 1) (lv' := [(5, .inr (.inl (some y3))), (1, .inl l1), (2, .inr (.inl (some 3))), (3, .inl l3)]) C d_C_countYoung_41 4 rfl (by decide) (by decide) rfl ?_
            refine r_goto (tgt := 13) (pc := 44) C d_C_countYoung_44 (by decide) ?_
            refine r_sub [2, 3, 4, 0] rfl ?_
            exact ih l1 (l4 + 1) μ5 h
          · intro hc; replace h := h.1 hc
            refine r_iinc (pc := 38) (v := 1) (lv' := [(5, .inr (.inl (some y3))), (2, .inr (.inl (some 3))), (3, .inl l3), (4, .inl l4)]) C d_C_countYoung_38 1 rfl (by decide) (by decide) rfl ?_
            refine r_iinc (pc := 41) (v := 1) (lv' := [(1, .inl (l1 + 1)), (5, .inr (.inl (some y3))), (2, .inr (.inl (some 3))), (3, .inl l3)]) C d_C_countYoung_41 4 rfl (by decide) (by decide) rfl ?_
            refine r_goto (tgt := 13) (pc := 44) C d_C_countYoung_44 (by decide) ?_
            refine r_sub [1, 3, 4, 0] rfl ?_
            exact ih (l1 + 1) (l4 + 1) μ5 h
  unfold wC_countYoung at h
  refine r_iconst (pc := 0) C d_C_countYoung_0 (v := 0) (by decide) ?_
  refine r_istore_n (pc := 1) (lv' := [(0, .inr (.inl (some 0)))]) C d_C_countYoung_1 rfl (by decide) rfl ?_
  refine r_aload_n (pc := 2) C d_C_countYoung_2 rfl 1 rfl ?_
  refine r_getR (pc := 3) (ci := 0) C rfl 2 (by decide) (k_108 C.w) rfl (lay_O hg rfl) d_C_countYoung_3 ?_
  refine r_astore_n (pc := 6) (lv' := [(1, .inl 0), (0, .inr (.inl (some 0)))]) C d_C_countYoung_6 rfl (by decide) rfl ?_
  refine r_aload_n (pc := 7) C d_C_countYoung_7 rfl 0 rfl ?_
  refine r_alenQ (pc := 8) (v := 128) C (lay_A hg rfl) (by decide) d_C_countYoung_8 ?_
  refine r_istore_n (pc := 9) (lv' := [(2, .inr (.inl (some 3))), (1, .inl 0), (0, .inr (.inl (some 0)))]) C d_C_countYoung_9 rfl (by decide) rfl ?_
  refine r_iconst (pc := 10) C d_C_countYoung_10 (v := 0) (by decide) ?_
  refine r_istore (pc := 11) (lv' := [(3, .inl 128), (2, .inr (.inl (some 3))), (1, .inl 0), (0, .inr (.inl (some 0)))]) C d_C_countYoung_11 (by decide) rfl ?_
  obtain ⟨n10, h⟩ := h
  refine r_sub [3, 2, 1, 0] rfl ?_
  refine L_13 128 _ ?_ n10 0 0 μ h
  intro v8 v9 μ7 h
  refine r_iload_n (pc := 47) C d_C_countYoung_47 rfl 0 rfl ?_
  exact r_iret (pc := 48) C Q d_C_countYoung_48 (by decide) (by decide) h
theorem c_C_figure {l : Launch} (hl : l.stackTraces = false) {G : Gl} (hg : gf G = true) {a1 : Int32} {pe : Nat → Mem → Prop} {post : Int32 → Mem → Prop} {μ : Mem} (h : wC_figure a1 pe post μ) : Ct l G i_C_figure [.inr (.inl (some 0)), .inl a1] μ (poI post) pe := by
  refine ct_of hl (by decide) (Nat.le_of_ble_eq_true rfl) ?_
  intro K hKl C Q hE
  clear hl hKl
  replace C : Cx K G prog_1_method_14_code "LineCollector" 2 { frames := 6, cells := 1, slots := 6, locals := 81 } := C
  replace Q : Cq K G { frames := 6, cells := 1, slots := 6, locals := 81 } (some .int) (poI post) pe := Q
  show Rn K G 2 0 [(0, .inr (.inl (some 0))), (1, .inl a1)] [] μ 0 0
  unfold wC_figure at h
  refine r_iload_n (pc := 0) C d_C_figure_0 rfl 1 rfl ?_
  by_cases hs0 : a1 = 0
  · replace h := h.1 hs0
    refine r_tin (tgt := 52) (pc := 1) C d_C_figure_1 hs0 (by decide) (by decide) (by rfl) (by decide) ?_
    refine r_aload_n (pc := 52) C d_C_figure_52 rfl 0 rfl ?_
    refine r_cVi (pc := 53) (a' := 0) (b' := 0) (As := []) (ci := 0) C (c_C_countItems C.s hg h) o_C_countItems rfl (lay_O hg rfl) (k_636 C.w) rfl ⟨by decide, by decide, by decide, by decide⟩ rfl rfl (Nat.le_of_ble_eq_true rfl) d_C_figure_53 rfl ?_
    intro r2 μ1 h
    exact r_iret (pc := 56) C Q d_C_figure_56 (by decide) (by decide) h
  by_cases hs1 : a1 = 1
  · replace h := h.2.1 hs1
    refine r_tin (tgt := 57) (pc := 1) C d_C_figure_1 hs1 (by decide) (by decide) (by rfl) (by decide) ?_
    refine r_aload_n (pc := 57) C d_C_figure_57 rfl 0 rfl ?_
    refine r_cVi (pc := 58) (a' := 0) (b' := 0) (As := []) (ci := 0) C (c_C_countYoung C.s hg h) o_C_countYoung rfl (lay_O hg rfl) (k_640 C.w) rfl ⟨by decide, by decide, by decide, by decide⟩ rfl rfl (Nat.le_of_ble_eq_true rfl) d_C_figure_58 rfl ?_
    intro r4 μ3 h
    exact r_iret (pc := 61) C Q d_C_figure_61 (by decide) (by decide) h
  by_cases hs2 : a1 = 2
  · replace h := h.2.2.1 hs2
    refine r_tin (tgt := 62) (pc := 1) C d_C_figure_1 hs2 (by decide) (by decide) (by rfl) (by decide) ?_
    refine r_aload_n (pc := 62) C d_C_figure_62 rfl 0 rfl ?_
    refine r_getR (pc := 63) (ci := 0) C rfl 5 (by decide) (k_111 C.w) rfl (lay_O hg rfl) d_C_figure_63 ?_
    refine r_getI (pc := 66) (ci := 4) C rfl 2 (by decide) (k_98 C.w) rfl (lay_O hg rfl) d_C_figure_66 ?_
    exact r_iret (pc := 69) C Q d_C_figure_69 (by decide) (by decide) h
  by_cases hs3 : a1 = 3
  · replace h := h.2.2.2.1 hs3
    refine r_tin (tgt := 70) (pc := 1) C d_C_figure_1 hs3 (by decide) (by decide) (by rfl) (by decide) ?_
    refine r_aload_n (pc := 70) C d_C_figure_70 rfl 0 rfl ?_
    refine r_getR (pc := 71) (ci := 0) C rfl 4 (by decide) (k_110 C.w) rfl (lay_O hg rfl) d_C_figure_71 ?_
    refine r_getI (pc := 74) (ci := 3) C rfl 3 (by decide) (k_78 C.w) rfl (lay_O hg rfl) d_C_figure_74 ?_
    exact r_iret (pc := 77) C Q d_C_figure_77 (by decide) (by decide) h
  by_cases hs4 : a1 = 4
  · replace h := h.2.2.2.2.1 hs4
    refine r_tin (tgt := 78) (pc := 1) C d_C_figure_1 hs4 (by decide) (by decide) (by rfl) (by decide) ?_
    refine r_aload_n (pc := 78) C d_C_figure_78 rfl 0 rfl ?_
    refine r_getI (pc := 79) (ci := 0) C rfl 8 (by decide) (k_114 C.w) rfl (lay_O hg rfl) d_C_figure_79 ?_
    exact r_iret (pc := 82) C Q d_C_figure_82 (by decide) (by decide) h
  by_cases hs5 : a1 = 5
  · replace h := h.2.2.2.2.2.1 hs5
    refine r_tin (tgt := 83) (pc := 1) C d_C_figure_1 hs5 (by decide) (by decide) (by rfl) (by decide) ?_
    refine r_aload_n (pc := 83) C d_C_figure_83 rfl 0 rfl ?_
    refine r_getI (pc := 84) (ci := 0) C rfl 7 (by decide) (k_113 C.w) rfl (lay_O hg rfl) d_C_figure_84 ?_
    refine r_if_eq (tgt := 94) (pc := 87) C d_C_figure_87 (by decide) ?_ ?_
    · intro hc; replace h := h.1 hc
      refine r_iconst (pc := 94) C d_C_figure_94 (v := 0) (by decide) ?_
      exact r_iret (pc := 95) C Q d_C_figure_95 (by decide) (by decide) h
    · intro hc; replace h := h.2 hc
      refine r_iconst (pc := 90) C d_C_figure_90 (v := 1) (by decide) ?_
      refine r_goto (tgt := 95) (pc := 91) C d_C_figure_91 (by decide) ?_
      exact r_iret (pc := 95) C Q d_C_figure_95 (by decide) (by decide) h
  by_cases hs6 : a1 = 6
  · replace h := h.2.2.2.2.2.2.1 hs6
    refine r_tin (tgt := 96) (pc := 1) C d_C_figure_1 hs6 (by decide) (by decide) (by rfl) (by decide) ?_
    refine r_aload_n (pc := 96) C d_C_figure_96 rfl 0 rfl ?_
    refine r_getI (pc := 97) (ci := 0) C rfl 9 (by decide) (k_115 C.w) rfl (lay_O hg rfl) d_C_figure_97 ?_
    exact r_iret (pc := 100) C Q d_C_figure_100 (by decide) (by decide) h
  by_cases hs7 : a1 = 7
  · replace h := h.2.2.2.2.2.2.2.1 hs7
    refine r_tin (tgt := 101) (pc := 1) C d_C_figure_1 hs7 (by decide) (by decide) (by rfl) (by decide) ?_
    refine r_aload_n (pc := 101) C d_C_figure_101 rfl 0 rfl ?_
    refine r_getI (pc := 102) (ci := 0) C rfl 10 (by decide) (k_116 C.w) rfl (lay_O hg rfl) d_C_figure_102 ?_
    exact r_iret (pc := 105) C Q d_C_figure_105 (by decide) (by decide) h
  by_cases hs8 : a1 = 8
  · replace h := h.2.2.2.2.2.2.2.2.1 hs8
    refine r_tin (tgt := 106) (pc := 1) C d_C_figure_1 hs8 (by decide) (by decide) (by rfl) (by decide) ?_
    refine r_aload_n (pc := 106) C d_C_figure_106 rfl 0 rfl ?_
    refine r_cVi (pc := 107) (a' := 0) (b' := 0) (As := []) (ci := 0) C (c_C_countGrey C.s hg h) o_C_countGrey rfl (lay_O hg rfl) (k_289 C.w) rfl ⟨by decide, by decide, by decide, by decide⟩ rfl rfl (Nat.le_of_ble_eq_true rfl) d_C_figure_107 rfl ?_
    intro r6 μ5 h
    exact r_iret (pc := 110) C Q d_C_figure_110 (by decide) (by decide) h
  replace h := h.2.2.2.2.2.2.2.2.2 hs0 hs1 hs2 hs3 hs4 hs5 hs6 hs7 hs8
  refine r_tout (tgt := 111) (N := 8) (pc := 1) C d_C_figure_1 (by decide) (fun n hn => ?_) (by decide) ?_
  · match n, hn with
    | 0, _ => exact hs0
    | 1, _ => exact hs1
    | 2, _ => exact hs2
    | 3, _ => exact hs3
    | 4, _ => exact hs4
    | 5, _ => exact hs5
    | 6, _ => exact hs6
    | 7, _ => exact hs7
    | 8, _ => exact hs8
    | n + 9, hn => exact absurd hn (by omega)
  exact r_throw (pc := 111) C Q hE (q := 7) rfl (by decide +kernel) (k_358 C.w) x_ins7 x_ini7 (x_C_51) d_C_figure_111 d_C_figure_114 d_C_figure_115 d_C_figure_118 ⟨by decide, by decide, by decide, by decide⟩ h
theorem c_M_init {l : Launch} (hl : l.stackTraces = false) {G : Gl} {x : Nat} {post : Mem → Prop} {μ : Mem} (h : wM_init x post μ) : Ct l G i_M_init [.inr (.inl (some x))] μ (poV post) noX := by
  refine ct_ofI hl (by decide) (Nat.le_of_ble_eq_true rfl) ?_
  intro K hKl C Q hI
  clear hl hKl
  replace C : Cx K G prog_8_method_1_code "LineCollectorModel" 2 { frames := 1, cells := 16, slots := 9272, locals := 20 } := C
  replace Q : Cq K G { frames := 1, cells := 16, slots := 9272, locals := 20 } (none) (poV post) noX := Q
  show Rn K G 2 0 [(0, .inr (.inl (some x)))] [] μ 0 0
  have L_162 : ∀ (l0 : Nat) (k : Int32 → Mem → Prop), (∀ (v1 : Int32) (μ : Mem), k v1 μ → Rn K G 2 182 [(0, .inr (.inl (some l0)))] [] μ 16 9272) → ∀ (n : Nat) (l1 : Int32) (μ : Mem), wM_init_162 l0 k n l1 μ → Rn K G 2 162 [(0, .inr (.inl (some l0))), (1, .inl l1)] [] μ 16 9272 := by
    intro l0 k hk n
    induction n with
    | zero => intro l1 μ h; exact h.elim
    | succ n ih =>
      intro l1 μ h
      unfold wM_init_162 at h
      refine r_iload_n (pc := 162) C d_M_init_162 rfl 1 rfl ?_
      refine r_sipush (pc := 163) C d_M_init_163 (v := 128) (by decide) ?_
      refine r_icmp_ge (tgt := 182) (pc := 166) C d_M_init_166 (by decide) ?_ ?_
      · intro hc; replace h := h.1 hc
        refine r_sub [0] rfl ?_
        exact hk l1 μ h
      · intro hc; replace h := h.2 hc
        refine r_aload_n (pc := 169) C d_M_init_169 rfl 0 rfl ?_
        obtain ⟨o53, h⟩ := h
        refine r_getR (pc := 170) (ci := 6) C rfl 1 (by decide) (k_651 C.w) rfl (ok_O o53) d_M_init_170 ?_
        refine r_iload_n (pc := 173) C d_M_init_173 rfl 1 rfl ?_
        refine r_iconst (pc := 174) C d_M_init_174 (v := (-1)) (by decide) ?_
        obtain ⟨o54, h⟩ := h
        obtain ⟨b55, h⟩ := h
        refine r_iast (pc := 175) C (ok_A o54) b55 d_M_init_175 ?_
        intro μ56 eμ56; replace h := h μ56 eμ56
        refine r_iinc (pc := 176) (v := 1) (lv' := [(0, .inr (.inl (some l0)))]) C d_M_init_176 1 rfl (by decide) (by decide) rfl ?_
        refine r_goto (tgt := 162) (pc := 179) C d_M_init_179 (by decide) ?_
        refine r_sub [1, 0] rfl ?_
        exact ih (l1 + 1) μ56 h
  have L_184 : ∀ (l0 : Nat) (k : Int32 → Mem → Prop), (∀ (v1 : Int32) (μ : Mem), k v1 μ → Rn K G 2 210 [] [] μ 16 9272) → ∀ (n : Nat) (l1 : Int32) (μ : Mem), wM_init_184 l0 k n l1 μ → Rn K G 2 184 [(0, .inr (.inl (some l0))), (1, .inl l1)] [] μ 16 9272 := by
    intro l0 k hk n
    induction n with
    | zero => intro l1 μ h; exact h.elim
    | succ n ih =>
      intro l1 μ h
      unfold wM_init_184 at h
      refine r_iload_n (pc := 184) C d_M_init_184 rfl 1 rfl ?_
      refine r_bipush (pc := 185) C d_M_init_185 (v := 6) (by decide) ?_
      refine r_icmp_ge (tgt := 210) (pc := 187) C d_M_init_187 (by decide) ?_ ?_
      · intro hc; replace h := h.1 hc
        refine r_sub [] rfl ?_
        exact hk l1 μ h
      · intro hc; replace h := h.2 hc
        refine r_aload_n (pc := 190) C d_M_init_190 rfl 0 rfl ?_
        obtain ⟨o59, h⟩ := h
        refine r_getR (pc := 191) (ci := 6) C rfl 11 (by decide) (k_661 C.w) rfl (ok_O o59) d_M_init_191 ?_
        refine r_iload_n (pc := 194) C d_M_init_194 rfl 1 rfl ?_
        refine r_iconst (pc := 195) C d_M_init_195 (v := (-1)) (by decide) ?_
        obtain ⟨o60, h⟩ := h
        obtain ⟨b61, h⟩ := h
        refine r_iast (pc := 196) C (ok_A o60) b61 d_M_init_196 ?_
        intro μ62 eμ62; replace h := h μ62 eμ62
        refine r_aload_n (pc := 197) C d_M_init_197 rfl 0 rfl ?_
        refine r_getR (pc := 198) (ci := 6) C rfl 12 (by decide) (k_662 C.w) rfl (ok_O (ok_s eμ62 o59)) d_M_init_198 ?_
        refine r_iload_n (pc := 201) C d_M_init_201 rfl 1 rfl ?_
        refine r_iconst (pc := 202) C d_M_init_202 (v := (-1)) (by decide) ?_
        obtain ⟨o63, h⟩ := h
        obtain ⟨b64, h⟩ := h
        refine r_iast (pc := 203) C (ok_A o63) b64 d_M_init_203 ?_
        intro μ65 eμ65; replace h := h μ65 eμ65
        refine r_iinc (pc := 204) (v := 1) (lv' := [(0, .inr (.inl (some l0)))]) C d_M_init_204 1 rfl (by decide) (by decide) rfl ?_
        refine r_goto (tgt := 184) (pc := 207) C d_M_init_207 (by decide) ?_
        refine r_sub [1, 0] rfl ?_
        exact ih (l1 + 1) μ65 h
  unfold wM_init at h
  refine r_aload_n (pc := 0) C d_M_init_0 rfl 0 rfl ?_
  refine r_obj (pc := 1) C (k_649 C.w) (x_objI C.w) (x_objC C.w) d_M_init_1 ⟨by decide, Nat.le_of_ble_eq_true rfl⟩ ?_
  refine r_aload_n (pc := 4) C d_M_init_4 rfl 0 rfl ?_
  refine r_sipush (pc := 5) C d_M_init_5 (v := 128) (by decide) ?_
  refine r_newI (pc := 8) (M := 128) (a' := 1) (b' := 128) C x_acI d_M_init_8 (by decide) (by decide) (by decide) ⟨by decide, by decide⟩ rfl rfl ?_
  intro y1 μ2 ey1 eμ2; replace h := h y1 μ2 ey1 eμ2
  obtain ⟨o3, h⟩ := h
  refine r_putUR (pc := 10) (ci := 6) C rfl 1 (by decide) (k_651 C.w) (Or.inr ⟨rfl, hI, rfl⟩) rfl p_AI (Or.inr ⟨_, rfl⟩) o3 d_M_init_10 ?_
  intro μ4 eμ4; replace h := h μ4 eμ4
  refine r_aload_n (pc := 13) C d_M_init_13 rfl 0 rfl ?_
  refine r_sipush (pc := 14) C d_M_init_14 (v := 256) (by decide) ?_
  refine r_newI (pc := 17) (M := 256) (a' := 2) (b' := 384) C x_acI d_M_init_17 (by decide) (by decide) (by decide) ⟨by decide, by decide⟩ rfl rfl ?_
  intro y5 μ6 ey5 eμ6; replace h := h y5 μ6 ey5 eμ6
  refine r_putUR (pc := 19) (ci := 6) C rfl 2 (by decide) (k_652 C.w) (Or.inr ⟨rfl, hI, rfl⟩) rfl p_AI (Or.inr ⟨_, rfl⟩) (ok_m eμ6 (ok_t eμ4 o3)) d_M_init_19 ?_
  intro μ7 eμ7; replace h := h μ7 eμ7
  refine r_aload_n (pc := 22) C d_M_init_22 rfl 0 rfl ?_
  refine r_sipush (pc := 23) C d_M_init_23 (v := 256) (by decide) ?_
  refine r_newI (pc := 26) (M := 256) (a' := 3) (b' := 640) C x_acI d_M_init_26 (by decide) (by decide) (by decide) ⟨by decide, by decide⟩ rfl rfl ?_
  intro y8 μ9 ey8 eμ9; replace h := h y8 μ9 ey8 eμ9
  refine r_putUR (pc := 28) (ci := 6) C rfl 3 (by decide) (k_653 C.w) (Or.inr ⟨rfl, hI, rfl⟩) rfl p_AI (Or.inr ⟨_, rfl⟩) (ok_m eμ9 (ok_t eμ7 (ok_m eμ6 (ok_t eμ4 o3)))) d_M_init_28 ?_
  intro μ10 eμ10; replace h := h μ10 eμ10
  refine r_aload_n (pc := 31) C d_M_init_31 rfl 0 rfl ?_
  refine r_sipush (pc := 32) C d_M_init_32 (v := 256) (by decide) ?_
  refine r_newI (pc := 35) (M := 256) (a' := 4) (b' := 896) C x_acI d_M_init_35 (by decide) (by decide) (by decide) ⟨by decide, by decide⟩ rfl rfl ?_
  intro y11 μ12 ey11 eμ12; replace h := h y11 μ12 ey11 eμ12
  refine r_putUR (pc := 37) (ci := 6) C rfl 4 (by decide) (k_654 C.w) (Or.inr ⟨rfl, hI, rfl⟩) rfl p_AI (Or.inr ⟨_, rfl⟩) (ok_m eμ12 (ok_t eμ10 (ok_m eμ9 (ok_t eμ7 (ok_m eμ6 (ok_t eμ4 o3)))))) d_M_init_37 ?_
  intro μ13 eμ13; replace h := h μ13 eμ13
  refine r_aload_n (pc := 40) C d_M_init_40 rfl 0 rfl ?_
  refine r_sipush (pc := 41) C d_M_init_41 (v := 256) (by decide) ?_
  refine r_newI (pc := 44) (M := 256) (a' := 5) (b' := 1152) C x_acI d_M_init_44 (by decide) (by decide) (by decide) ⟨by decide, by decide⟩ rfl rfl ?_
  intro y14 μ15 ey14 eμ15; replace h := h y14 μ15 ey14 eμ15
  refine r_putUR (pc := 46) (ci := 6) C rfl 5 (by decide) (k_655 C.w) (Or.inr ⟨rfl, hI, rfl⟩) rfl p_AI (Or.inr ⟨_, rfl⟩) (ok_m eμ15 (ok_t eμ13 (ok_m eμ12 (ok_t eμ10 (ok_m eμ9 (ok_t eμ7 (ok_m eμ6 (ok_t eμ4 o3)))))))) d_M_init_46 ?_
  intro μ16 eμ16; replace h := h μ16 eμ16
  refine r_aload_n (pc := 49) C d_M_init_49 rfl 0 rfl ?_
  refine r_sipush (pc := 50) C d_M_init_50 (v := 256) (by decide) ?_
  refine r_newI (pc := 53) (M := 256) (a' := 6) (b' := 1408) C x_acI d_M_init_53 (by decide) (by decide) (by decide) ⟨by decide, by decide⟩ rfl rfl ?_
  intro y17 μ18 ey17 eμ18; replace h := h y17 μ18 ey17 eμ18
  refine r_putUR (pc := 55) (ci := 6) C rfl 6 (by decide) (k_656 C.w) (Or.inr ⟨rfl, hI, rfl⟩) rfl p_AI (Or.inr ⟨_, rfl⟩) (ok_m eμ18 (ok_t eμ16 (ok_m eμ15 (ok_t eμ13 (ok_m eμ12 (ok_t eμ10 (ok_m eμ9 (ok_t eμ7 (ok_m eμ6 (ok_t eμ4 o3)))))))))) d_M_init_55 ?_
  intro μ19 eμ19; replace h := h μ19 eμ19
  refine r_aload_n (pc := 58) C d_M_init_58 rfl 0 rfl ?_
  refine r_sipush (pc := 59) C d_M_init_59 (v := 256) (by decide) ?_
  refine r_newI (pc := 62) (M := 256) (a' := 7) (b' := 1664) C x_acI d_M_init_62 (by decide) (by decide) (by decide) ⟨by decide, by decide⟩ rfl rfl ?_
  intro y20 μ21 ey20 eμ21; replace h := h y20 μ21 ey20 eμ21
  refine r_putUR (pc := 64) (ci := 6) C rfl 7 (by decide) (k_657 C.w) (Or.inr ⟨rfl, hI, rfl⟩) rfl p_AI (Or.inr ⟨_, rfl⟩) (ok_m eμ21 (ok_t eμ19 (ok_m eμ18 (ok_t eμ16 (ok_m eμ15 (ok_t eμ13 (ok_m eμ12 (ok_t eμ10 (ok_m eμ9 (ok_t eμ7 (ok_m eμ6 (ok_t eμ4 o3)))))))))))) d_M_init_64 ?_
  intro μ22 eμ22; replace h := h μ22 eμ22
  refine r_aload_n (pc := 67) C d_M_init_67 rfl 0 rfl ?_
  refine r_sipush (pc := 68) C d_M_init_68 (v := 3072) (by decide) ?_
  refine r_newI (pc := 71) (M := 3072) (a' := 8) (b' := 4736) C x_acI d_M_init_71 (by decide) (by decide) (by decide) ⟨by decide, by decide⟩ rfl rfl ?_
  intro y23 μ24 ey23 eμ24; replace h := h y23 μ24 ey23 eμ24
  refine r_putUR (pc := 73) (ci := 6) C rfl 8 (by decide) (k_658 C.w) (Or.inr ⟨rfl, hI, rfl⟩) rfl p_AI (Or.inr ⟨_, rfl⟩) (ok_m eμ24 (ok_t eμ22 (ok_m eμ21 (ok_t eμ19 (ok_m eμ18 (ok_t eμ16 (ok_m eμ15 (ok_t eμ13 (ok_m eμ12 (ok_t eμ10 (ok_m eμ9 (ok_t eμ7 (ok_m eμ6 (ok_t eμ4 o3)))))))))))))) d_M_init_73 ?_
  intro μ25 eμ25; replace h := h μ25 eμ25
  refine r_aload_n (pc := 76) C d_M_init_76 rfl 0 rfl ?_
  refine r_sipush (pc := 77) C d_M_init_77 (v := 3072) (by decide) ?_
  refine r_newZ (pc := 80) (M := 3072) (a' := 9) (b' := 7808) C x_acZ d_M_init_80 (by decide) (by decide) (by decide) ⟨by decide, by decide⟩ rfl rfl ?_
  intro y26 μ27 ey26 eμ27; replace h := h y26 μ27 ey26 eμ27
  refine r_putUR (pc := 82) (ci := 6) C rfl 9 (by decide) (k_659 C.w) (Or.inr ⟨rfl, hI, rfl⟩) rfl p_AZ (Or.inr ⟨_, rfl⟩) (ok_m eμ27 (ok_t eμ25 (ok_m eμ24 (ok_t eμ22 (ok_m eμ21 (ok_t eμ19 (ok_m eμ18 (ok_t eμ16 (ok_m eμ15 (ok_t eμ13 (ok_m eμ12 (ok_t eμ10 (ok_m eμ9 (ok_t eμ7 (ok_m eμ6 (ok_t eμ4 o3)))))))))))))))) d_M_init_82 ?_
  intro μ28 eμ28; replace h := h μ28 eμ28
  refine r_aload_n (pc := 85) C d_M_init_85 rfl 0 rfl ?_
  refine r_bipush (pc := 86) C d_M_init_86 (v := 6) (by decide) ?_
  refine r_newI (pc := 88) (M := 6) (a' := 10) (b' := 7814) C x_acI d_M_init_88 (by decide) (by decide) (by decide) ⟨by decide, by decide⟩ rfl rfl ?_
  intro y29 μ30 ey29 eμ30; replace h := h y29 μ30 ey29 eμ30
  refine r_putUR (pc := 90) (ci := 6) C rfl 11 (by decide) (k_661 C.w) (Or.inr ⟨rfl, hI, rfl⟩) rfl p_AI (Or.inr ⟨_, rfl⟩) (ok_m eμ30 (ok_t eμ28 (ok_m eμ27 (ok_t eμ25 (ok_m eμ24 (ok_t eμ22 (ok_m eμ21 (ok_t eμ19 (ok_m eμ18 (ok_t eμ16 (ok_m eμ15 (ok_t eμ13 (ok_m eμ12 (ok_t eμ10 (ok_m eμ9 (ok_t eμ7 (ok_m eμ6 (ok_t eμ4 o3)))))))))))))))))) d_M_init_90 ?_
  intro μ31 eμ31; replace h := h μ31 eμ31
  refine r_aload_n (pc := 93) C d_M_init_93 rfl 0 rfl ?_
  refine r_bipush (pc := 94) C d_M_init_94 (v := 6) (by decide) ?_
  refine r_newI (pc := 96) (M := 6) (a' := 11) (b' := 7820) C x_acI d_M_init_96 (by decide) (by decide) (by decide) ⟨by decide, by decide⟩ rfl rfl ?_
  intro y32 μ33 ey32 eμ33; replace h := h y32 μ33 ey32 eμ33
  refine r_putUR (pc := 98) (ci := 6) C rfl 12 (by decide) (k_662 C.w) (Or.inr ⟨rfl, hI, rfl⟩) rfl p_AI (Or.inr ⟨_, rfl⟩) (ok_m eμ33 (ok_t eμ31 (ok_m eμ30 (ok_t eμ28 (ok_m eμ27 (ok_t eμ25 (ok_m eμ24 (ok_t eμ22 (ok_m eμ21 (ok_t eμ19 (ok_m eμ18 (ok_t eμ16 (ok_m eμ15 (ok_t eμ13 (ok_m eμ12 (ok_t eμ10 (ok_m eμ9 (ok_t eμ7 (ok_m eμ6 (ok_t eμ4 o3)))))))))))))))))))) d_M_init_98 ?_
  intro μ34 eμ34; replace h := h μ34 eμ34
  refine r_aload_n (pc := 101) C d_M_init_101 rfl 0 rfl ?_
  refine r_iconst (pc := 102) C d_M_init_102 (v := (-1)) (by decide) ?_
  refine r_putUI (pc := 103) (ci := 6) C rfl 13 (by decide) (k_663 C.w) (Or.inl rfl) rfl p_I (ok_t eμ34 (ok_m eμ33 (ok_t eμ31 (ok_m eμ30 (ok_t eμ28 (ok_m eμ27 (ok_t eμ25 (ok_m eμ24 (ok_t eμ22 (ok_m eμ21 (ok_t eμ19 (ok_m eμ18 (ok_t eμ16 (ok_m eμ15 (ok_t eμ13 (ok_m eμ12 (ok_t eμ10 (ok_m eμ9 (ok_t eμ7 (ok_m eμ6 (ok_t eμ4 o3))))))))))))))))))))) d_M_init_103 ?_
  intro μ35 eμ35; replace h := h μ35 eμ35
  refine r_aload_n (pc := 106) C d_M_init_106 rfl 0 rfl ?_
  refine r_iconst (pc := 107) C d_M_init_107 (v := (-1)) (by decide) ?_
  refine r_putUI (pc := 108) (ci := 6) C rfl 16 (by decide) (k_666 C.w) (Or.inl rfl) rfl p_I (ok_s eμ35 (ok_t eμ34 (ok_m eμ33 (ok_t eμ31 (ok_m eμ30 (ok_t eμ28 (ok_m eμ27 (ok_t eμ25 (ok_m eμ24 (ok_t eμ22 (ok_m eμ21 (ok_t eμ19 (ok_m eμ18 (ok_t eμ16 (ok_m eμ15 (ok_t eμ13 (ok_m eμ12 (ok_t eμ10 (ok_m eμ9 (ok_t eμ7 (ok_m eμ6 (ok_t eμ4 o3)))))))))))))))))))))) d_M_init_108 ?_
  intro μ36 eμ36; replace h := h μ36 eμ36
  refine r_aload_n (pc := 111) C d_M_init_111 rfl 0 rfl ?_
  refine r_bipush (pc := 112) C d_M_init_112 (v := 32) (by decide) ?_
  refine r_newZ (pc := 114) (M := 32) (a' := 12) (b' := 7852) C x_acZ d_M_init_114 (by decide) (by decide) (by decide) ⟨by decide, by decide⟩ rfl rfl ?_
  intro y37 μ38 ey37 eμ38; replace h := h y37 μ38 ey37 eμ38
  refine r_putUR (pc := 116) (ci := 6) C rfl 18 (by decide) (k_668 C.w) (Or.inr ⟨rfl, hI, rfl⟩) rfl p_AZ (Or.inr ⟨_, rfl⟩) (ok_m eμ38 (ok_s eμ36 (ok_s eμ35 (ok_t eμ34 (ok_m eμ33 (ok_t eμ31 (ok_m eμ30 (ok_t eμ28 (ok_m eμ27 (ok_t eμ25 (ok_m eμ24 (ok_t eμ22 (ok_m eμ21 (ok_t eμ19 (ok_m eμ18 (ok_t eμ16 (ok_m eμ15 (ok_t eμ13 (ok_m eμ12 (ok_t eμ10 (ok_m eμ9 (ok_t eμ7 (ok_m eμ6 (ok_t eμ4 o3)))))))))))))))))))))))) d_M_init_116 ?_
  intro μ39 eμ39; replace h := h μ39 eμ39
  refine r_aload_n (pc := 119) C d_M_init_119 rfl 0 rfl ?_
  refine r_iconst (pc := 120) C d_M_init_120 (v := (-1)) (by decide) ?_
  refine r_putUI (pc := 121) (ci := 6) C rfl 19 (by decide) (k_669 C.w) (Or.inl rfl) rfl p_I (ok_t eμ39 (ok_m eμ38 (ok_s eμ36 (ok_s eμ35 (ok_t eμ34 (ok_m eμ33 (ok_t eμ31 (ok_m eμ30 (ok_t eμ28 (ok_m eμ27 (ok_t eμ25 (ok_m eμ24 (ok_t eμ22 (ok_m eμ21 (ok_t eμ19 (ok_m eμ18 (ok_t eμ16 (ok_m eμ15 (ok_t eμ13 (ok_m eμ12 (ok_t eμ10 (ok_m eμ9 (ok_t eμ7 (ok_m eμ6 (ok_t eμ4 o3))))))))))))))))))))))))) d_M_init_121 ?_
  intro μ40 eμ40; replace h := h μ40 eμ40
  refine r_aload_n (pc := 124) C d_M_init_124 rfl 0 rfl ?_
  refine r_sipush (pc := 125) C d_M_init_125 (v := 700) (by decide) ?_
  refine r_newI (pc := 128) (M := 700) (a' := 13) (b' := 8552) C x_acI d_M_init_128 (by decide) (by decide) (by decide) ⟨by decide, by decide⟩ rfl rfl ?_
  intro y41 μ42 ey41 eμ42; replace h := h y41 μ42 ey41 eμ42
  refine r_putUR (pc := 130) (ci := 6) C rfl 20 (by decide) (k_670 C.w) (Or.inr ⟨rfl, hI, rfl⟩) rfl p_AI (Or.inr ⟨_, rfl⟩) (ok_m eμ42 (ok_s eμ40 (ok_t eμ39 (ok_m eμ38 (ok_s eμ36 (ok_s eμ35 (ok_t eμ34 (ok_m eμ33 (ok_t eμ31 (ok_m eμ30 (ok_t eμ28 (ok_m eμ27 (ok_t eμ25 (ok_m eμ24 (ok_t eμ22 (ok_m eμ21 (ok_t eμ19 (ok_m eμ18 (ok_t eμ16 (ok_m eμ15 (ok_t eμ13 (ok_m eμ12 (ok_t eμ10 (ok_m eμ9 (ok_t eμ7 (ok_m eμ6 (ok_t eμ4 o3))))))))))))))))))))))))))) d_M_init_130 ?_
  intro μ43 eμ43; replace h := h μ43 eμ43
  refine r_aload_n (pc := 133) C d_M_init_133 rfl 0 rfl ?_
  refine r_sipush (pc := 134) C d_M_init_134 (v := 160) (by decide) ?_
  refine r_newI (pc := 137) (M := 160) (a' := 14) (b' := 8712) C x_acI d_M_init_137 (by decide) (by decide) (by decide) ⟨by decide, by decide⟩ rfl rfl ?_
  intro y44 μ45 ey44 eμ45; replace h := h y44 μ45 ey44 eμ45
  refine r_putUR (pc := 139) (ci := 6) C rfl 22 (by decide) (k_672 C.w) (Or.inr ⟨rfl, hI, rfl⟩) rfl p_AI (Or.inr ⟨_, rfl⟩) (ok_m eμ45 (ok_t eμ43 (ok_m eμ42 (ok_s eμ40 (ok_t eμ39 (ok_m eμ38 (ok_s eμ36 (ok_s eμ35 (ok_t eμ34 (ok_m eμ33 (ok_t eμ31 (ok_m eμ30 (ok_t eμ28 (ok_m eμ27 (ok_t eμ25 (ok_m eμ24 (ok_t eμ22 (ok_m eμ21 (ok_t eμ19 (ok_m eμ18 (ok_t eμ16 (ok_m eμ15 (ok_t eμ13 (ok_m eμ12 (ok_t eμ10 (ok_m eμ9 (ok_t eμ7 (ok_m eμ6 (ok_t eμ4 o3))))))))))))))))))))))))))))) d_M_init_139 ?_
  intro μ46 eμ46; replace h := h μ46 eμ46
  refine r_aload_n (pc := 142) C d_M_init_142 rfl 0 rfl ?_
  refine r_sipush (pc := 143) C d_M_init_143 (v := 160) (by decide) ?_
  refine r_newI (pc := 146) (M := 160) (a' := 15) (b' := 8872) C x_acI d_M_init_146 (by decide) (by decide) (by decide) ⟨by decide, by decide⟩ rfl rfl ?_
  intro y47 μ48 ey47 eμ48; replace h := h y47 μ48 ey47 eμ48
  refine r_putUR (pc := 148) (ci := 6) C rfl 23 (by decide) (k_673 C.w) (Or.inr ⟨rfl, hI, rfl⟩) rfl p_AI (Or.inr ⟨_, rfl⟩) (ok_m eμ48 (ok_t eμ46 (ok_m eμ45 (ok_t eμ43 (ok_m eμ42 (ok_s eμ40 (ok_t eμ39 (ok_m eμ38 (ok_s eμ36 (ok_s eμ35 (ok_t eμ34 (ok_m eμ33 (ok_t eμ31 (ok_m eμ30 (ok_t eμ28 (ok_m eμ27 (ok_t eμ25 (ok_m eμ24 (ok_t eμ22 (ok_m eμ21 (ok_t eμ19 (ok_m eμ18 (ok_t eμ16 (ok_m eμ15 (ok_t eμ13 (ok_m eμ12 (ok_t eμ10 (ok_m eμ9 (ok_t eμ7 (ok_m eμ6 (ok_t eμ4 o3))))))))))))))))))))))))))))))) d_M_init_148 ?_
  intro μ49 eμ49; replace h := h μ49 eμ49
  refine r_aload_n (pc := 151) C d_M_init_151 rfl 0 rfl ?_
  refine r_sipush (pc := 152) C d_M_init_152 (v := 400) (by decide) ?_
  refine r_newI (pc := 155) (M := 400) (a' := 16) (b' := 9272) C x_acI d_M_init_155 (by decide) (by decide) (by decide) ⟨by decide, by decide⟩ rfl rfl ?_
  intro y50 μ51 ey50 eμ51; replace h := h y50 μ51 ey50 eμ51
  refine r_putUR (pc := 157) (ci := 6) C rfl 25 (by decide) (k_675 C.w) (Or.inr ⟨rfl, hI, rfl⟩) rfl p_AI (Or.inr ⟨_, rfl⟩) (ok_m eμ51 (ok_t eμ49 (ok_m eμ48 (ok_t eμ46 (ok_m eμ45 (ok_t eμ43 (ok_m eμ42 (ok_s eμ40 (ok_t eμ39 (ok_m eμ38 (ok_s eμ36 (ok_s eμ35 (ok_t eμ34 (ok_m eμ33 (ok_t eμ31 (ok_m eμ30 (ok_t eμ28 (ok_m eμ27 (ok_t eμ25 (ok_m eμ24 (ok_t eμ22 (ok_m eμ21 (ok_t eμ19 (ok_m eμ18 (ok_t eμ16 (ok_m eμ15 (ok_t eμ13 (ok_m eμ12 (ok_t eμ10 (ok_m eμ9 (ok_t eμ7 (ok_m eμ6 (ok_t eμ4 o3))))))))))))))))))))))))))))))))) d_M_init_157 ?_
  intro μ52 eμ52; replace h := h μ52 eμ52
  obtain ⟨f53, h⟩ := h
  refine r_fin (by decide) f53 ?_
  intro μ53 eμ53; replace h := h μ53 eμ53
  refine r_iconst (pc := 160) C d_M_init_160 (v := 0) (by decide) ?_
  refine r_istore_n (pc := 161) (lv' := [(0, .inr (.inl (some x)))]) C d_M_init_161 rfl (by decide) rfl ?_
  obtain ⟨n69, h⟩ := h
  refine r_sub [1, 0] rfl ?_
  refine L_162 x _ ?_ n69 0 μ53 h
  intro v58 μ57 h
  refine r_iconst (pc := 182) C d_M_init_182 (v := 0) (by decide) ?_
  refine r_istore_n (pc := 183) (lv' := [(0, .inr (.inl (some x)))]) C d_M_init_183 rfl (by decide) rfl ?_
  obtain ⟨n68, h⟩ := h
  refine r_sub [1, 0] rfl ?_
  refine L_184 x _ ?_ n68 0 μ57 h
  intro v67 μ66 h
  exact r_vret (pc := 210) C Q d_M_init_210 (by decide) (by decide) h
