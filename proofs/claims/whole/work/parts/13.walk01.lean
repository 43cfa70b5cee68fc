/-! The machine meets the predicates (written by a program) -/
theorem c_P_close {l : Launch} (hl : l.stackTraces = false) {G : Gl} {post : Mem → Prop} {μ : Mem} (h : wP_close post μ) : Ct l G i_P_close [.inr (.inl (some 4))] μ (poV post) noX := by
  refine ct_of hl (by decide) (Nat.le_of_ble_eq_true rfl) ?_
  intro K hKl C hE
  clear hl hKl
  replace C : Cx K G prog_4_method_8_code "LineCollector$Places" 1 { frames := 1, cells := 0, slots := 0, locals := 22 } (none) (poV post) noX := C
  show Rn K G 1 0 [(0, .inr (.inl (some 4)))] [] μ 0 0
  unfold wP_close at h
  refine r_aload_n (pc := 0) C d_P_close_0 rfl 0 rfl ?_
  refine r_getR (pc := 1) (ci := 1) C rfl 2 (by decide) (k_53 C.w) rfl (lay_O rfl) d_P_close_1 ?_
  refine r_iconst (pc := 4) C d_P_close_4 (v := 0) (by decide) ?_
  refine r_iconst (pc := 5) C d_P_close_5 (v := 0) (by decide) ?_
  refine r_cVv (pc := 6) (a' := 0) (b' := 0) (As := [.inl 0, .inl 0]) (ci := 2) C (c_S_open C.s h) o_S_open rfl (lay_O rfl) (k_185 C.w) rfl ⟨by decide, by decide, by decide, by decide⟩ rfl rfl (Nat.le_of_ble_eq_true rfl) d_P_close_6 rfl ?_
  intro μ1 h
  refine r_aload_n (pc := 9) C d_P_close_9 rfl 0 rfl ?_
  refine r_getR (pc := 10) (ci := 1) C rfl 3 (by decide) (k_54 C.w) rfl (lay_O rfl) d_P_close_10 ?_
  refine r_iconst (pc := 13) C d_P_close_13 (v := 0) (by decide) ?_
  refine r_iconst (pc := 14) C d_P_close_14 (v := 0) (by decide) ?_
  refine r_cVv (pc := 15) (a' := 0) (b' := 0) (As := [.inl 0, .inl 0]) (ci := 2) C (c_S_open C.s h) o_S_open rfl (lay_O rfl) (k_185 C.w) rfl ⟨by decide, by decide, by decide, by decide⟩ rfl rfl (Nat.le_of_ble_eq_true rfl) d_P_close_15 rfl ?_
  intro μ2 h
  exact r_vret (pc := 18) C d_P_close_18 (by decide) (by decide) h
theorem c_W_clear {l : Launch} (hl : l.stackTraces = false) {G : Gl} {x : Nat} {post : Mem → Prop} {μ : Mem} (h : wW_clear x post μ) : Ct l G i_W_clear [.inr (.inl (some x))] μ (poV post) noX := by
  refine ct_of hl (by decide) (Nat.le_of_ble_eq_true rfl) ?_
  intro K hKl C hE
  clear hl hKl
  replace C : Cx K G prog_5_method_6_code "LineCollector$Row" 1 { frames := 0, cells := 0, slots := 0, locals := 0 } (none) (poV post) noX := C
  show Rn K G 1 0 [(0, .inr (.inl (some x)))] [] μ 0 0
  unfold wW_clear at h
  refine r_aload_n (pc := 0) C d_W_clear_0 rfl 0 rfl ?_
  refine r_iconst (pc := 1) C d_W_clear_1 (v := 0) (by decide) ?_
  obtain ⟨o1, h⟩ := h
  refine r_putI (pc := 2) (ci := 4) C rfl 1 (by decide) (k_96 C.w) rfl rfl p_I (ok_O o1) d_W_clear_2 ?_
  intro μ2 eμ2; replace h := h μ2 eμ2
  refine r_aload_n (pc := 5) C d_W_clear_5 rfl 0 rfl ?_
  refine r_iconst (pc := 6) C d_W_clear_6 (v := 0) (by decide) ?_
  refine r_putI (pc := 7) (ci := 4) C rfl 2 (by decide) (k_97 C.w) rfl rfl p_I (ok_O (ok_s eμ2 o1)) d_W_clear_7 ?_
  intro μ3 eμ3; replace h := h μ3 eμ3
  exact r_vret (pc := 10) C d_W_clear_10 (by decide) (by decide) h
theorem c_G_heldNow {l : Launch} (hl : l.stackTraces = false) {G : Gl} {a1 : Int32} {post : Option Nat → Mem → Prop} {μ : Mem} (h : wG_heldNow a1 post μ) : Ct l G i_G_heldNow [.inr (.inl (some 9)), .inl a1] μ (poQ G post) noX := by
  refine ct_of hl (by decide) (Nat.le_of_ble_eq_true rfl) ?_
  intro K hKl C hE
  clear hl hKl
  replace C : Cx K G prog_3_method_3_code "LineCollector$Log" 2 { frames := 0, cells := 0, slots := 0, locals := 0 } (some (.object "LineCollector$Item")) (poQ G post) noX := C
  show Rn K G 2 0 [(0, .inr (.inl (some 9))), (1, .inl a1)] [] μ 0 0
  unfold wG_heldNow at h
  refine r_aload_n (pc := 0) C d_G_heldNow_0 rfl 0 rfl ?_
  refine r_getR (pc := 1) (ci := 3) C rfl 0 (by decide) (k_74 C.w) rfl (lay_O rfl) d_G_heldNow_1 ?_
  refine r_iload_n (pc := 4) C d_G_heldNow_4 rfl 1 rfl ?_
  obtain ⟨b1, h⟩ := h
  refine r_aald (pc := 5) C (lay_A rfl) b1 d_G_heldNow_5 ?_
  intro e2 he2; replace h := h e2 he2
  obtain ⟨y3, rfl, h⟩ := h
  obtain ⟨o4, h⟩ := h
  refine r_getR (pc := 6) (ci := 5) C rfl 2 (by decide) (k_465 C.w) rfl (ok_O o4) d_G_heldNow_6 ?_
  refine r_aload_n (pc := 9) C d_G_heldNow_9 rfl 0 rfl ?_
  refine r_getR (pc := 10) (ci := 3) C rfl 1 (by decide) (k_75 C.w) rfl (lay_O rfl) d_G_heldNow_10 ?_
  refine r_iload_n (pc := 13) C d_G_heldNow_13 rfl 1 rfl ?_
  refine r_iald (pc := 14) C (lay_A rfl) b1 d_G_heldNow_14 ?_
  obtain ⟨o5, h⟩ := h
  obtain ⟨b6, h⟩ := h
  refine r_aald (pc := 15) C (ok_A o5) b6 d_G_heldNow_15 ?_
  intro e7 he7; replace h := h e7 he7
  exact r_aret (pc := 16) C d_G_heldNow_16 (by decide) (by decide) h
theorem c_C_gatherSlots {l : Launch} (hl : l.stackTraces = false) {G : Gl} {post : Mem → Prop} {μ : Mem} (h : wC_gatherSlots post μ) : Ct l G i_C_gatherSlots [.inr (.inl (some 0))] μ (poV post) noX := by
  refine ct_of hl (by decide) (Nat.le_of_ble_eq_true rfl) ?_
  intro K hKl C hE
  clear hl hKl
  replace C : Cx K G prog_1_method_34_code "LineCollector" 5 { frames := 1, cells := 0, slots := 0, locals := 21 } (none) (poV post) noX := C
  show Rn K G 5 0 [(0, .inr (.inl (some 0)))] [] μ 0 0
  have L_17 : ∀ (l2 : Int32) (k : Int32 → Mem → Prop), (∀ (v3 : Int32) (μ : Mem), k v3 μ → Rn K G 5 42 [(0, .inr (.inl (some 0)))] [] μ 0 0) → ∀ (n : Nat) (l3 : Int32) (μ : Mem), wC_gatherSlots_17 l2 k n l3 μ → Rn K G 5 17 [(0, .inr (.inl (some 0))), (1, .inr (.inl (some 1))), (2, .inl l2), (3, .inl l3)] [] μ 0 0 := by
    intro l2 k hk n
    induction n with
    | zero => intro l3 μ h; exact h.elim
    | succ n ih =>
      intro l3 μ h
      unfold wC_gatherSlots_17 at h
      refine r_iload_n (pc := 17) C d_C_gatherSlots_17 rfl 3 rfl ?_
      refine r_iload_n (pc := 18) C d_C_gatherSlots_18 rfl 2 rfl ?_
      refine r_icmp_ge (tgt := 42) (pc := 19) C d_C_gatherSlots_19 (by decide) ?_ ?_
      · intro hc; replace h := h.1 hc
        refine r_sub [0] rfl ?_
        exact hk l3 μ h
      · intro hc; replace h := h.2 hc
        refine r_aload_n (pc := 22) C d_C_gatherSlots_22 rfl 1 rfl ?_
        refine r_iload_n (pc := 23) C d_C_gatherSlots_23 rfl 3 rfl ?_
        obtain ⟨b2, h⟩ := h
        refine r_aald (pc := 24) C (lay_A rfl) b2 d_C_gatherSlots_24 ?_
        intro e3 he3; replace h := h e3 he3
        refine r_astore (pc := 25) (lv' := [(0, .inr (.inl (some 0))), (1, .inr (.inl (some 1))), (2, .inl l2), (3, .inl l3)]) C d_C_gatherSlots_25 (by decide) rfl ?_
        refine r_aload_n (pc := 27) C d_C_gatherSlots_27 rfl 1 rfl ?_
        refine r_getR (pc := 28) (ci := 0) C rfl 6 (by decide) (k_112 C.w) rfl (lay_O rfl) d_C_gatherSlots_28 ?_
        refine r_aload (pc := 31) C d_C_gatherSlots_31 0 rfl ?_
        refine r_cVv (pc := 33) (a' := 0) (b' := 0) (As := [.inr (.inl e3)]) (ci := 4) C (c_W_add C.s h) o_W_add rfl (lay_O rfl) (k_165 C.w) rfl ⟨by decide, by decide, by decide, by decide⟩ rfl rfl (Nat.le_of_ble_eq_true rfl) d_C_gatherSlots_33 rfl ?_
        intro μ4 h
        refine r_iinc (pc := 36) (v := 1) (lv' := [(4, .inr (.inl e3)), (0, .inr (.inl (some 0))), (1, .inr (.inl (some 1))), (2, .inl l2)]) C d_C_gatherSlots_36 4 rfl (by decide) (by decide) rfl ?_
        refine r_goto (tgt := 17) (pc := 39) C d_C_gatherSlots_39 (by decide) ?_
        refine r_sub [2, 3, 4, 0] rfl ?_
        exact ih (l3 + 1) μ4 h
  have L_44 : ∀ (k : Int32 → Mem → Prop), (∀ (v1 : Int32) (μ : Mem), k v1 μ → Rn K G 5 76 [] [] μ 0 0) → ∀ (n : Nat) (l1 : Int32) (μ : Mem), wC_gatherSlots_44 k n l1 μ → Rn K G 5 44 [(0, .inr (.inl (some 0))), (1, .inl l1)] [] μ 0 0 := by
    intro k hk n
    induction n with
    | zero => intro l1 μ h; exact h.elim
    | succ n ih =>
      intro l1 μ h
      unfold wC_gatherSlots_44 at h
      refine r_iload_n (pc := 44) C d_C_gatherSlots_44 rfl 1 rfl ?_
      refine r_aload_n (pc := 45) C d_C_gatherSlots_45 rfl 0 rfl ?_
      refine r_getR (pc := 46) (ci := 0) C rfl 4 (by decide) (k_110 C.w) rfl (lay_O rfl) d_C_gatherSlots_46 ?_
      refine r_getI (pc := 49) (ci := 3) C rfl 3 (by decide) (k_78 C.w) rfl (lay_O rfl) d_C_gatherSlots_49 ?_
      refine r_icmp_ge (tgt := 76) (pc := 52) C d_C_gatherSlots_52 (by decide) ?_ ?_
      · intro hc; replace h := h.1 hc
        refine r_sub [] rfl ?_
        exact hk l1 μ h
      · intro hc; replace h := h.2 hc
        refine r_aload_n (pc := 55) C d_C_gatherSlots_55 rfl 0 rfl ?_
        refine r_getR (pc := 56) (ci := 0) C rfl 6 (by decide) (k_112 C.w) rfl (lay_O rfl) d_C_gatherSlots_56 ?_
        refine r_aload_n (pc := 59) C d_C_gatherSlots_59 rfl 0 rfl ?_
        refine r_getR (pc := 60) (ci := 0) C rfl 4 (by decide) (k_110 C.w) rfl (lay_O rfl) d_C_gatherSlots_60 ?_
        refine r_iload_n (pc := 63) C d_C_gatherSlots_63 rfl 1 rfl ?_
        refine r_cVq (pc := 64) (a' := 0) (b' := 0) (As := [.inl l1]) (ci := 3) C (c_G_heldNow C.s h) o_G_heldNow rfl (lay_O rfl) (k_201 C.w) rfl ⟨by decide, by decide, by decide, by decide⟩ rfl rfl (Nat.le_of_ble_eq_true rfl) d_C_gatherSlots_64 rfl ?_
        intro r8 μ7 h
        refine r_cVv (pc := 67) (a' := 0) (b' := 0) (As := [.inr (.inl r8)]) (ci := 4) C (c_W_add C.s h) o_W_add rfl (lay_O rfl) (k_165 C.w) rfl ⟨by decide, by decide, by decide, by decide⟩ rfl rfl (Nat.le_of_ble_eq_true rfl) d_C_gatherSlots_67 rfl ?_
        intro μ9 h
        refine r_iinc (pc := 70) (v := 1) (lv' := [(0, .inr (.inl (some 0)))]) C d_C_gatherSlots_70 1 rfl (by decide) (by decide) rfl ?_
        refine r_goto (tgt := 44) (pc := 73) C d_C_gatherSlots_73 (by decide) ?_
        refine r_sub [1, 0] rfl ?_
        exact ih (l1 + 1) μ9 h
  unfold wC_gatherSlots at h
  refine r_aload_n (pc := 0) C d_C_gatherSlots_0 rfl 0 rfl ?_
  refine r_getR (pc := 1) (ci := 0) C rfl 6 (by decide) (k_112 C.w) rfl (lay_O rfl) d_C_gatherSlots_1 ?_
  refine r_cVv (pc := 4) (a' := 0) (b' := 0) (As := []) (ci := 4) C (c_W_clear C.s h) o_W_clear rfl (lay_O rfl) (k_197 C.w) rfl ⟨by decide, by decide, by decide, by decide⟩ rfl rfl (Nat.le_of_ble_eq_true rfl) d_C_gatherSlots_4 rfl ?_
  intro μ1 h
  refine r_aload_n (pc := 7) C d_C_gatherSlots_7 rfl 0 rfl ?_
  refine r_getR (pc := 8) (ci := 0) C rfl 0 (by decide) (k_106 C.w) rfl (lay_O rfl) d_C_gatherSlots_8 ?_
  refine r_astore_n (pc := 11) (lv' := [(0, .inr (.inl (some 0)))]) C d_C_gatherSlots_11 rfl (by decide) rfl ?_
  refine r_aload_n (pc := 12) C d_C_gatherSlots_12 rfl 0 rfl ?_
  refine r_alenQ (pc := 13) (v := 6) C (lay_A rfl) (by decide) d_C_gatherSlots_13 ?_
  refine r_istore_n (pc := 14) (lv' := [(1, .inr (.inl (some 1))), (0, .inr (.inl (some 0)))]) C d_C_gatherSlots_14 rfl (by decide) rfl ?_
  refine r_iconst (pc := 15) C d_C_gatherSlots_15 (v := 0) (by decide) ?_
  refine r_istore_n (pc := 16) (lv' := [(2, .inl 6), (1, .inr (.inl (some 1))), (0, .inr (.inl (some 0)))]) C d_C_gatherSlots_16 rfl (by decide) rfl ?_
  obtain ⟨n13, h⟩ := h
  refine r_sub [3, 2, 1, 0] rfl ?_
  refine L_17 6 _ ?_ n13 0 μ1 h
  intro v6 μ5 h
  refine r_iconst (pc := 42) C d_C_gatherSlots_42 (v := 0) (by decide) ?_
  refine r_istore_n (pc := 43) (lv' := [(0, .inr (.inl (some 0)))]) C d_C_gatherSlots_43 rfl (by decide) rfl ?_
  obtain ⟨n12, h⟩ := h
  refine r_sub [1, 0] rfl ?_
  refine L_44 _ ?_ n12 0 μ5 h
  intro v11 μ10 h
  exact r_vret (pc := 76) C d_C_gatherSlots_76 (by decide) (by decide) h
theorem c_W_get {l : Launch} (hl : l.stackTraces = false) {G : Gl} {x : Nat} {a1 : Int32} {post : Option Nat → Mem → Prop} {μ : Mem} (h : wW_get x a1 post μ) : Ct l G i_W_get [.inr (.inl (some x)), .inl a1] μ (poQ G post) noX := by
  refine ct_of hl (by decide) (Nat.le_of_ble_eq_true rfl) ?_
  intro K hKl C hE
  clear hl hKl
  replace C : Cx K G prog_5_method_3_code "LineCollector$Row" 2 { frames := 0, cells := 0, slots := 0, locals := 0 } (some (.object "LineCollector$Item")) (poQ G post) noX := C
  show Rn K G 2 0 [(0, .inr (.inl (some x))), (1, .inl a1)] [] μ 0 0
  unfold wW_get at h
  refine r_iload_n (pc := 0) C d_W_get_0 rfl 1 rfl ?_
  refine r_if_lt (tgt := 30) (pc := 1) C d_W_get_1 (by decide) ?_ ?_
  · intro hc; replace h := h.1 hc
    refine r_null (pc := 30) C d_W_get_30 ?_
    exact r_aret (pc := 31) C d_W_get_31 (by decide) (by decide) h
  · intro hc; replace h := h.2 hc
    refine r_iload_n (pc := 4) C d_W_get_4 rfl 1 rfl ?_
    refine r_aload_n (pc := 5) C d_W_get_5 rfl 0 rfl ?_
    obtain ⟨o1, h⟩ := h
    refine r_getI (pc := 6) (ci := 4) C rfl 2 (by decide) (k_97 C.w) rfl (ok_O o1) d_W_get_6 ?_
    refine r_icmp_ge (tgt := 30) (pc := 9) C d_W_get_9 (by decide) ?_ ?_
    · intro hc; replace h := h.1 hc
      refine r_null (pc := 30) C d_W_get_30 ?_
      exact r_aret (pc := 31) C d_W_get_31 (by decide) (by decide) h
    · intro hc; replace h := h.2 hc
      refine r_aload_n (pc := 12) C d_W_get_12 rfl 0 rfl ?_
      refine r_getR (pc := 13) (ci := 4) C rfl 0 (by decide) (k_95 C.w) rfl (ok_O o1) d_W_get_13 ?_
      refine r_aload_n (pc := 16) C d_W_get_16 rfl 0 rfl ?_
      refine r_getI (pc := 17) (ci := 4) C rfl 1 (by decide) (k_96 C.w) rfl (ok_O o1) d_W_get_17 ?_
      refine r_iload_n (pc := 20) C d_W_get_20 rfl 1 rfl ?_
      refine r_iadd (pc := 21) C d_W_get_21 ?_
      refine r_sipush (pc := 22) C d_W_get_22 (v := 262) (by decide) ?_
      refine r_irem (pc := 25) C d_W_get_25 (by decide) ?_
      obtain ⟨o2, h⟩ := h
      obtain ⟨b3, h⟩ := h
      refine r_aald (pc := 26) C (ok_A o2) b3 d_W_get_26 ?_
      intro e4 he4; replace h := h e4 he4
      refine r_goto (tgt := 31) (pc := 27) C d_W_get_27 (by decide) ?_
      exact r_aret (pc := 31) C d_W_get_31 (by decide) (by decide) h
theorem c_I_growOld {l : Launch} (hl : l.stackTraces = false) {G : Gl} {x : Nat} {a1 : Int32} {post : Mem → Prop} {μ : Mem} (h : wI_growOld x a1 post μ) : Ct l G i_I_growOld [.inr (.inl (some x)), .inl a1] μ (poV post) noX := by
  refine ct_of hl (by decide) (Nat.le_of_ble_eq_true rfl) ?_
  intro K hKl C hE
  clear hl hKl
  replace C : Cx K G prog_2_method_5_code "LineCollector$Item" 2 { frames := 0, cells := 0, slots := 0, locals := 0 } (none) (poV post) noX := C
  show Rn K G 2 0 [(0, .inr (.inl (some x))), (1, .inl a1)] [] μ 0 0
  unfold wI_growOld at h
  refine r_aload_n (pc := 0) C d_I_growOld_0 rfl 0 rfl ?_
  refine r_iconst (pc := 1) C d_I_growOld_1 (v := 1) (by decide) ?_
  obtain ⟨o1, h⟩ := h
  refine r_putI (pc := 2) (ci := 5) C rfl 5 (by decide) (k_471 C.w) rfl rfl p_I (ok_O o1) d_I_growOld_2 ?_
  intro μ2 eμ2; replace h := h μ2 eμ2
  refine r_aload_n (pc := 5) C d_I_growOld_5 rfl 0 rfl ?_
  refine r_iload_n (pc := 6) C d_I_growOld_6 rfl 1 rfl ?_
  refine r_putI (pc := 7) (ci := 5) C rfl 6 (by decide) (k_473 C.w) rfl rfl p_I (ok_O (ok_s eμ2 o1)) d_I_growOld_7 ?_
  intro μ3 eμ3; replace h := h μ3 eμ3
  exact r_vret (pc := 10) C d_I_growOld_10 (by decide) (by decide) h
theorem c_P_moveOut {l : Launch} (hl : l.stackTraces = false) {G : Gl} {a1 : Int32} {a2 : Int32} {post : Mem → Prop} {μ : Mem} (h : wP_moveOut a1 a2 post μ) : Ct l G i_P_moveOut [.inr (.inl (some 4)), .inl a1, .inl a2] μ (poV post) noX := by
  refine ct_of hl (by decide) (Nat.le_of_ble_eq_true rfl) ?_
  intro K hKl C hE
  clear hl hKl
  replace C : Cx K G prog_4_method_6_code "LineCollector$Places" 4 { frames := 0, cells := 0, slots := 0, locals := 0 } (none) (poV post) noX := C
  show Rn K G 4 0 [(0, .inr (.inl (some 4))), (1, .inl a1), (2, .inl a2)] [] μ 0 0
  have L_2 : ∀ (l1 : Int32) (l2 : Int32) (k : Int32 → Mem → Prop), (∀ (v3 : Int32) (μ : Mem), k v3 μ → Rn K G 4 36 [] [] μ 0 0) → ∀ (n : Nat) (l3 : Int32) (μ : Mem), wP_moveOut_2 l1 l2 k n l3 μ → Rn K G 4 2 [(0, .inr (.inl (some 4))), (1, .inl l1), (2, .inl l2), (3, .inl l3)] [] μ 0 0 := by
    intro l1 l2 k hk n
    induction n with
    | zero => intro l3 μ h; exact h.elim
    | succ n ih =>
      intro l3 μ h
      unfold wP_moveOut_2 at h
      refine r_iload_n (pc := 2) C d_P_moveOut_2 rfl 3 rfl ?_
      refine r_iload_n (pc := 3) C d_P_moveOut_3 rfl 1 rfl ?_
      refine r_iload_n (pc := 4) C d_P_moveOut_4 rfl 2 rfl ?_
      refine r_iadd (pc := 5) C d_P_moveOut_5 ?_
      refine r_icmp_ge (tgt := 36) (pc := 6) C d_P_moveOut_6 (by decide) ?_ ?_
      · intro hc; replace h := h.1 hc
        refine r_sub [] rfl ?_
        exact hk l3 μ h
      · intro hc; replace h := h.2 hc
        refine r_aload_n (pc := 9) C d_P_moveOut_9 rfl 0 rfl ?_
        refine r_getR (pc := 10) (ci := 1) C rfl 0 (by decide) (k_51 C.w) rfl (lay_O rfl) d_P_moveOut_10 ?_
        refine r_iload_n (pc := 13) C d_P_moveOut_13 rfl 3 rfl ?_
        refine r_iconst (pc := 14) C d_P_moveOut_14 (v := 4) (by decide) ?_
        refine r_idiv (pc := 15) C d_P_moveOut_15 (by decide) ?_
        refine r_dup2 (pc := 16) C d_P_moveOut_16 ?_
        obtain ⟨b1, h⟩ := h
        refine r_iald (pc := 17) C (lay_A rfl) b1 d_P_moveOut_17 ?_
        refine r_iconst (pc := 18) C d_P_moveOut_18 (v := 1) (by decide) ?_
        refine r_isub (pc := 19) C d_P_moveOut_19 ?_
        refine r_iast (pc := 20) C (lay_A rfl) b1 d_P_moveOut_20 ?_
        intro μ2 eμ2; replace h := h μ2 eμ2
        refine r_aload_n (pc := 21) C d_P_moveOut_21 rfl 0 rfl ?_
        refine r_getR (pc := 22) (ci := 1) C rfl 1 (by decide) (k_52 C.w) rfl (lay_O rfl) d_P_moveOut_22 ?_
        refine r_iload_n (pc := 25) C d_P_moveOut_25 rfl 3 rfl ?_
        refine r_iconst (pc := 26) C d_P_moveOut_26 (v := 4) (by decide) ?_
        refine r_idiv (pc := 27) C d_P_moveOut_27 (by decide) ?_
        refine r_iconst (pc := 28) C d_P_moveOut_28 (v := 1) (by decide) ?_
        refine r_zast (pc := 29) C (lay_A rfl) b1 d_P_moveOut_29 (Or.inr rfl) ?_
        intro μ3 eμ3; replace h := h μ3 eμ3
        refine r_iinc (pc := 30) (v := 1) (lv' := [(0, .inr (.inl (some 4))), (1, .inl l1), (2, .inl l2)]) C d_P_moveOut_30 3 rfl (by decide) (by decide) rfl ?_
        refine r_goto (tgt := 2) (pc := 33) C d_P_moveOut_33 (by decide) ?_
        refine r_sub [1, 2, 3, 0] rfl ?_
        exact ih (l3 + 1) μ3 h
  unfold wP_moveOut at h
  refine r_iload_n (pc := 0) C d_P_moveOut_0 rfl 1 rfl ?_
  refine r_istore_n (pc := 1) (lv' := [(0, .inr (.inl (some 4))), (1, .inl a1), (2, .inl a2)]) C d_P_moveOut_1 rfl (by decide) rfl ?_
  obtain ⟨n6, h⟩ := h
  refine r_sub [1, 2, 3, 0] rfl ?_
  refine L_2 a1 a2 _ ?_ n6 a1 μ h
  intro v5 μ4 h
  exact r_vret (pc := 36) C d_P_moveOut_36 (by decide) (by decide) h
theorem c_C_moveTo {l : Launch} (hl : l.stackTraces = false) {G : Gl} {a1 : Nat} {a2 : Int32} {post : Mem → Prop} {μ : Mem} (h : wC_moveTo a1 a2 post μ) : Ct l G i_C_moveTo [.inr (.inl (some 0)), .inr (.inl (some a1)), .inl a2] μ (poV post) noX := by
  refine ct_of hl (by decide) (Nat.le_of_ble_eq_true rfl) ?_
  intro K hKl C hE
  clear hl hKl
  replace C : Cx K G prog_1_method_23_code "LineCollector" 3 { frames := 2, cells := 0, slots := 0, locals := 45 } (none) (poV post) noX := C
  show Rn K G 3 0 [(0, .inr (.inl (some 0))), (1, .inr (.inl (some a1))), (2, .inl a2)] [] μ 0 0
  unfold wC_moveTo at h
  refine r_iload_n (pc := 0) C d_C_moveTo_0 rfl 2 rfl ?_
  refine r_iconst (pc := 1) C d_C_moveTo_1 (v := (-1)) (by decide) ?_
  refine r_icmp_ne (tgt := 6) (pc := 2) C d_C_moveTo_2 (by decide) ?_ ?_
  · intro hc; replace h := h.2 hc
    refine r_aload_n (pc := 6) C d_C_moveTo_6 rfl 0 rfl ?_
    refine r_getR (pc := 7) (ci := 0) C rfl 2 (by decide) (k_108 C.w) rfl (lay_O rfl) d_C_moveTo_7 ?_
    refine r_aload_n (pc := 10) C d_C_moveTo_10 rfl 1 rfl ?_
    obtain ⟨o1, h⟩ := h
    refine r_getI (pc := 11) (ci := 5) C rfl 4 (by decide) (k_470 C.w) rfl (ok_O o1) d_C_moveTo_11 ?_
    refine r_null (pc := 14) C d_C_moveTo_14 ?_
    obtain ⟨b2, h⟩ := h
    refine r_aast (pc := 15) C (lay_A rfl) b2 d_C_moveTo_15 (fun y hy => by cases hy) ?_
    intro μ3 eμ3; replace h := h μ3 eμ3
    refine r_aload_n (pc := 16) C d_C_moveTo_16 rfl 0 rfl ?_
    refine r_getR (pc := 17) (ci := 0) C rfl 3 (by decide) (k_109 C.w) rfl (lay_O rfl) d_C_moveTo_17 ?_
    refine r_aload_n (pc := 20) C d_C_moveTo_20 rfl 1 rfl ?_
    refine r_getI (pc := 21) (ci := 5) C rfl 4 (by decide) (k_470 C.w) rfl (ok_O (ok_t eμ3 o1)) d_C_moveTo_21 ?_
    refine r_aload_n (pc := 24) C d_C_moveTo_24 rfl 1 rfl ?_
    refine r_getI (pc := 25) (ci := 5) C rfl 0 (by decide) (k_461 C.w) rfl (ok_O (ok_t eμ3 o1)) d_C_moveTo_25 ?_
    refine r_cVv (pc := 28) (a' := 0) (b' := 0) (As := [.inl (mI μ3 a1 4), .inl (mI μ3 a1 0)]) (ci := 1) C (c_P_moveOut C.s h) o_P_moveOut rfl (lay_O rfl) (k_253 C.w) rfl ⟨by decide, by decide, by decide, by decide⟩ rfl rfl (Nat.le_of_ble_eq_true rfl) d_C_moveTo_28 rfl ?_
    intro μ4 h
    refine r_aload_n (pc := 31) C d_C_moveTo_31 rfl 0 rfl ?_
    refine r_aload_n (pc := 32) C d_C_moveTo_32 rfl 1 rfl ?_
    refine r_iload_n (pc := 33) C d_C_moveTo_33 rfl 2 rfl ?_
    refine r_cVv (pc := 34) (a' := 0) (b' := 0) (As := [.inr (.inl (some a1)), .inl a2]) (ci := 0) C (c_C_settle C.s h) o_C_settle rfl (lay_O rfl) (k_257 C.w) rfl ⟨by decide, by decide, by decide, by decide⟩ rfl rfl (Nat.le_of_ble_eq_true rfl) d_C_moveTo_34 rfl ?_
    intro μ5 h
    refine r_aload_n (pc := 37) C d_C_moveTo_37 rfl 0 rfl ?_
    refine r_dupR (pc := 38) C d_C_moveTo_38 ?_
    refine r_getI (pc := 39) (ci := 0) C rfl 9 (by decide) (k_115 C.w) rfl (lay_O rfl) d_C_moveTo_39 ?_
    refine r_iconst (pc := 42) C d_C_moveTo_42 (v := 1) (by decide) ?_
    refine r_iadd (pc := 43) C d_C_moveTo_43 ?_
    refine r_putI (pc := 44) (ci := 0) C rfl 9 (by decide) (k_115 C.w) rfl rfl p_I (lay_O rfl) d_C_moveTo_44 ?_
    intro μ6 eμ6; replace h := h μ6 eμ6
    exact r_vret (pc := 47) C d_C_moveTo_47 (by decide) (by decide) h
  · intro hc; replace h := h.1 hc
    exact r_vret (pc := 5) C d_C_moveTo_5 (by decide) (by decide) h
theorem c_C_addFieldsToSlots {l : Launch} (hl : l.stackTraces = false) {G : Gl} {a1 : Nat} {post : Mem → Prop} {μ : Mem} (h : wC_addFieldsToSlots a1 post μ) : Ct l G i_C_addFieldsToSlots [.inr (.inl (some 0)), .inr (.inl (some a1))] μ (poV post) noX := by
  refine ct_of hl (by decide) (Nat.le_of_ble_eq_true rfl) ?_
  intro K hKl C hE
  clear hl hKl
  replace C : Cx K G prog_1_method_35_code "LineCollector" 6 { frames := 1, cells := 0, slots := 0, locals := 21 } (none) (poV post) noX := C
  show Rn K G 6 0 [(0, .inr (.inl (some 0))), (1, .inr (.inl (some a1)))] [] μ 0 0
  have L_11 : ∀ (l2 : Nat) (l3 : Int32) (k : Int32 → Mem → Prop), (∀ (v4 : Int32) (μ : Mem), k v4 μ → Rn K G 6 38 [] [] μ 0 0) → ∀ (n : Nat) (l4 : Int32) (μ : Mem), wC_addFieldsToSlots_11 l2 l3 k n l4 μ → Rn K G 6 11 [(0, .inr (.inl (some 0))), (2, .inr (.inl (some l2))), (3, .inl l3), (4, .inl l4)] [] μ 0 0 := by
    intro l2 l3 k hk n
    induction n with
    | zero => intro l4 μ h; exact h.elim
    | succ n ih =>
      intro l4 μ h
      unfold wC_addFieldsToSlots_11 at h
      refine r_iload (pc := 11) C d_C_addFieldsToSlots_11 3 rfl ?_
      refine r_iload_n (pc := 13) C d_C_addFieldsToSlots_13 rfl 2 rfl ?_
      refine r_icmp_ge (tgt := 38) (pc := 14) C d_C_addFieldsToSlots_14 (by decide) ?_ ?_
      · intro hc; replace h := h.1 hc
        refine r_sub [] rfl ?_
        exact hk l4 μ h
      · intro hc; replace h := h.2 hc
        refine r_aload_n (pc := 17) C d_C_addFieldsToSlots_17 rfl 1 rfl ?_
        refine r_iload (pc := 18) C d_C_addFieldsToSlots_18 3 rfl ?_
        obtain ⟨o3, h⟩ := h
        obtain ⟨b4, h⟩ := h
        refine r_aald (pc := 20) C (ok_A o3) b4 d_C_addFieldsToSlots_20 ?_
        intro e5 he5; replace h := h e5 he5
        refine r_astore (pc := 21) (lv' := [(0, .inr (.inl (some 0))), (2, .inr (.inl (some l2))), (3, .inl l3), (4, .inl l4)]) C d_C_addFieldsToSlots_21 (by decide) rfl ?_
        refine r_aload_n (pc := 23) C d_C_addFieldsToSlots_23 rfl 1 rfl ?_
        refine r_getR (pc := 24) (ci := 0) C rfl 6 (by decide) (k_112 C.w) rfl (lay_O rfl) d_C_addFieldsToSlots_24 ?_
        refine r_aload (pc := 27) C d_C_addFieldsToSlots_27 0 rfl ?_
        refine r_cVv (pc := 29) (a' := 0) (b' := 0) (As := [.inr (.inl e5)]) (ci := 4) C (c_W_add C.s h) o_W_add rfl (lay_O rfl) (k_165 C.w) rfl ⟨by decide, by decide, by decide, by decide⟩ rfl rfl (Nat.le_of_ble_eq_true rfl) d_C_addFieldsToSlots_29 rfl ?_
        intro μ6 h
        refine r_iinc (pc := 32) (v := 1) (lv' := [(5, .inr (.inl e5)), (0, .inr (.inl (some 0))), (2, .inr (.inl (some l2))), (3, .inl l3)]) C d_C_addFieldsToSlots_32 4 rfl (by decide) (by decide) rfl ?_
        refine r_goto (tgt := 11) (pc := 35) C d_C_addFieldsToSlots_35 (by decide) ?_
        refine r_sub [2, 3, 4, 0] rfl ?_
        exact ih (l4 + 1) μ6 h
  unfold wC_addFieldsToSlots at h
  refine r_aload_n (pc := 0) C d_C_addFieldsToSlots_0 rfl 1 rfl ?_
  obtain ⟨o1, h⟩ := h
  refine r_getR (pc := 1) (ci := 5) C rfl 2 (by decide) (k_466 C.w) rfl (ok_O o1) d_C_addFieldsToSlots_1 ?_
  refine r_astore_n (pc := 4) (lv' := [(0, .inr (.inl (some 0))), (1, .inr (.inl (some a1)))]) C d_C_addFieldsToSlots_4 rfl (by decide) rfl ?_
  refine r_aload_n (pc := 5) C d_C_addFieldsToSlots_5 rfl 0 rfl ?_
  obtain ⟨o2, h⟩ := h
  refine r_alenQ (pc := 6) (v := nI (mL μ (a1 + 1))) C (ok_A o2) rfl d_C_addFieldsToSlots_6 ?_
  refine r_istore_n (pc := 7) (lv' := [(2, .inr (.inl (some (a1 + 1)))), (0, .inr (.inl (some 0))), (1, .inr (.inl (some a1)))]) C d_C_addFieldsToSlots_7 rfl (by decide) rfl ?_
  refine r_iconst (pc := 8) C d_C_addFieldsToSlots_8 (v := 0) (by decide) ?_
  refine r_istore (pc := 9) (lv' := [(3, .inl (nI (mL μ (a1 + 1)))), (2, .inr (.inl (some (a1 + 1)))), (0, .inr (.inl (some 0))), (1, .inr (.inl (some a1)))]) C d_C_addFieldsToSlots_9 (by decide) rfl ?_
  obtain ⟨n9, h⟩ := h
  refine r_sub [3, 2, 1, 0] rfl ?_
  refine L_11 (a1 + 1) (nI (mL μ (a1 + 1))) _ ?_ n9 0 μ h
  intro v8 μ7 h
  exact r_vret (pc := 38) C d_C_addFieldsToSlots_38 (by decide) (by decide) h
theorem c_P_forgetMovedOut {l : Launch} (hl : l.stackTraces = false) {G : Gl} {post : Mem → Prop} {μ : Mem} (h : wP_forgetMovedOut post μ) : Ct l G i_P_forgetMovedOut [.inr (.inl (some 4))] μ (poV post) noX := by
  refine ct_of hl (by decide) (Nat.le_of_ble_eq_true rfl) ?_
  intro K hKl C hE
  clear hl hKl
  replace C : Cx K G prog_4_method_7_code "LineCollector$Places" 2 { frames := 0, cells := 0, slots := 0, locals := 0 } (none) (poV post) noX := C
  show Rn K G 2 0 [(0, .inr (.inl (some 4)))] [] μ 0 0
  have L_2 : ∀ (k : Int32 → Mem → Prop), (∀ (v1 : Int32) (μ : Mem), k v1 μ → Rn K G 2 21 [] [] μ 0 0) → ∀ (n : Nat) (l1 : Int32) (μ : Mem), wP_forgetMovedOut_2 k n l1 μ → Rn K G 2 2 [(0, .inr (.inl (some 4))), (1, .inl l1)] [] μ 0 0 := by
    intro k hk n
    induction n with
    | zero => intro l1 μ h; exact h.elim
    | succ n ih =>
      intro l1 μ h
      unfold wP_forgetMovedOut_2 at h
      refine r_iload_n (pc := 2) C d_P_forgetMovedOut_2 rfl 1 rfl ?_
      refine r_bipush (pc := 3) C d_P_forgetMovedOut_3 (v := 32) (by decide) ?_
      refine r_icmp_ge (tgt := 21) (pc := 5) C d_P_forgetMovedOut_5 (by decide) ?_ ?_
      · intro hc; replace h := h.1 hc
        refine r_sub [] rfl ?_
        exact hk l1 μ h
      · intro hc; replace h := h.2 hc
        refine r_aload_n (pc := 8) C d_P_forgetMovedOut_8 rfl 0 rfl ?_
        refine r_getR (pc := 9) (ci := 1) C rfl 1 (by decide) (k_52 C.w) rfl (lay_O rfl) d_P_forgetMovedOut_9 ?_
        refine r_iload_n (pc := 12) C d_P_forgetMovedOut_12 rfl 1 rfl ?_
        refine r_iconst (pc := 13) C d_P_forgetMovedOut_13 (v := 0) (by decide) ?_
        obtain ⟨b1, h⟩ := h
        refine r_zast (pc := 14) C (lay_A rfl) b1 d_P_forgetMovedOut_14 (Or.inl rfl) ?_
        intro μ2 eμ2; replace h := h μ2 eμ2
        refine r_iinc (pc := 15) (v := 1) (lv' := [(0, .inr (.inl (some 4)))]) C d_P_forgetMovedOut_15 1 rfl (by decide) (by decide) rfl ?_
        refine r_goto (tgt := 2) (pc := 18) C d_P_forgetMovedOut_18 (by decide) ?_
        refine r_sub [1, 0] rfl ?_
        exact ih (l1 + 1) μ2 h
  unfold wP_forgetMovedOut at h
  refine r_iconst (pc := 0) C d_P_forgetMovedOut_0 (v := 0) (by decide) ?_
  refine r_istore_n (pc := 1) (lv' := [(0, .inr (.inl (some 4)))]) C d_P_forgetMovedOut_1 rfl (by decide) rfl ?_
  obtain ⟨n5, h⟩ := h
  refine r_sub [1, 0] rfl ?_
  refine L_2 _ ?_ n5 0 μ h
  intro v4 μ3 h
  exact r_vret (pc := 21) C d_P_forgetMovedOut_21 (by decide) (by decide) h
theorem c_C_countSlots {l : Launch} (hl : l.stackTraces = false) {G : Gl} {post : Int32 → Mem → Prop} {μ : Mem} (h : wC_countSlots post μ) : Ct l G i_C_countSlots [.inr (.inl (some 0))] μ (poI post) noX := by
  refine ct_of hl (by decide) (Nat.le_of_ble_eq_true rfl) ?_
  intro K hKl C hE
  clear hl hKl
  replace C : Cx K G prog_1_method_33_code "LineCollector" 4 { frames := 4, cells := 0, slots := 0, locals := 88 } (some .int) (poI post) noX := C
  show Rn K G 4 0 [(0, .inr (.inl (some 0)))] [] μ 0 0
  have J_82 : ∀ (l1 : Int32) (l2 : Int32) (l3 : Nat) (t0 : Nat) (t1 : Int32) (k8 : Int32 → Int32 → Mem → Prop) , (∀ (v1 : Int32) (v2 : Int32) (μ : Mem), k8 v1 v2 μ → Rn K G 4 8 [(0, .inr (.inl (some 0))), (1, .inl v1), (2, .inl v2)] [] μ 0 0) → ∀ (μ : Mem), wC_countSlots_82 l1 l2 l3 t0 t1 k8 μ → Rn K G 4 82 [(0, .inr (.inl (some 0))), (1, .inl l1), (2, .inl l2), (3, .inr (.inl (some l3)))] [.int t1, rv G (some t0)] μ 0 0 := by
    intro l1 l2 l3 t0 t1 k8 hk8 μ h
    unfold wC_countSlots_82 at h
    obtain ⟨o8, h⟩ := h
    refine r_cVv (pc := 82) (a' := 0) (b' := 0) (As := [.inl t1]) (ci := 5) C (c_I_growOld C.s h) o_I_growOld rfl (ok_O o8) (k_213 C.w) rfl ⟨by decide, by decide, by decide, by decide⟩ rfl rfl (Nat.le_of_ble_eq_true rfl) d_C_countSlots_82 rfl ?_
    intro μ9 h
    refine r_aload_n (pc := 85) C d_C_countSlots_85 rfl 0 rfl ?_
    refine r_aload_n (pc := 86) C d_C_countSlots_86 rfl 3 rfl ?_
    refine r_aload_n (pc := 87) C d_C_countSlots_87 rfl 0 rfl ?_
    refine r_getR (pc := 88) (ci := 0) C rfl 3 (by decide) (k_109 C.w) rfl (lay_O rfl) d_C_countSlots_88 ?_
    refine r_aload_n (pc := 91) C d_C_countSlots_91 rfl 3 rfl ?_
    obtain ⟨o10, h⟩ := h
    refine r_getI (pc := 92) (ci := 5) C rfl 0 (by decide) (k_461 C.w) rfl (ok_O o10) d_C_countSlots_92 ?_
    refine r_cVi (pc := 95) (a' := 0) (b' := 0) (As := [.inl (mI μ9 l3 0)]) (ci := 1) C (c_P_find C.s h) o_P_find rfl (lay_O rfl) (k_217 C.w) rfl ⟨by decide, by decide, by decide, by decide⟩ rfl rfl (Nat.le_of_ble_eq_true rfl) d_C_countSlots_95 rfl ?_
    intro r12 μ11 h
    refine r_cVv (pc := 98) (a' := 0) (b' := 0) (As := [.inr (.inl (some l3)), .inl r12]) (ci := 0) C (c_C_moveTo C.s h) o_C_moveTo rfl (lay_O rfl) (k_249 C.w) rfl ⟨by decide, by decide, by decide, by decide⟩ rfl rfl (Nat.le_of_ble_eq_true rfl) d_C_countSlots_98 rfl ?_
    intro μ13 h
    refine r_aload_n (pc := 101) C d_C_countSlots_101 rfl 0 rfl ?_
    refine r_aload_n (pc := 102) C d_C_countSlots_102 rfl 3 rfl ?_
    refine r_cVv (pc := 103) (a' := 0) (b' := 0) (As := [.inr (.inl (some l3))]) (ci := 0) C (c_C_addFieldsToSlots C.s h) o_C_addFieldsToSlots rfl (lay_O rfl) (k_265 C.w) rfl ⟨by decide, by decide, by decide, by decide⟩ rfl rfl (Nat.le_of_ble_eq_true rfl) d_C_countSlots_103 rfl ?_
    intro μ14 h
    refine r_iinc (pc := 106) (v := 1) (lv' := [(0, .inr (.inl (some 0))), (1, .inl l1), (3, .inr (.inl (some l3)))]) C d_C_countSlots_106 2 rfl (by decide) (by decide) rfl ?_
    refine r_goto (tgt := 8) (pc := 109) C d_C_countSlots_109 (by decide) ?_
    refine r_sub [1, 2, 0] rfl ?_
    exact hk8 l1 (l2 + 1) μ14 h
  have L_8 : ∀ (k : Int32 → Int32 → Mem → Prop), (∀ (v1 : Int32) (v2 : Int32) (μ : Mem), k v1 v2 μ → Rn K G 4 112 [(0, .inr (.inl (some 0))), (1, .inl v1)] [] μ 0 0) → ∀ (n : Nat) (l1 : Int32) (l2 : Int32) (μ : Mem), wC_countSlots_8 k n l1 l2 μ → Rn K G 4 8 [(0, .inr (.inl (some 0))), (1, .inl l1), (2, .inl l2)] [] μ 0 0 := by
    intro k hk n
    induction n with
    | zero => intro l1 l2 μ h; exact h.elim
    | succ n ih =>
      intro l1 l2 μ h
      unfold wC_countSlots_8 at h
      refine r_iload_n (pc := 8) C d_C_countSlots_8 rfl 2 rfl ?_
      refine r_sipush (pc := 9) C d_C_countSlots_9 (v := 262) (by decide) ?_
      refine r_icmp_ge (tgt := 112) (pc := 12) C d_C_countSlots_12 (by decide) ?_ ?_
      · intro hc; replace h := h.1 hc
        refine r_sub [0, 1] rfl ?_
        exact hk l1 l2 μ h
      · intro hc; replace h := h.2 hc
        refine r_iload_n (pc := 15) C d_C_countSlots_15 rfl 2 rfl ?_
        refine r_aload_n (pc := 16) C d_C_countSlots_16 rfl 0 rfl ?_
        refine r_getR (pc := 17) (ci := 0) C rfl 6 (by decide) (k_112 C.w) rfl (lay_O rfl) d_C_countSlots_17 ?_
        refine r_getI (pc := 20) (ci := 4) C rfl 2 (by decide) (k_98 C.w) rfl (lay_O rfl) d_C_countSlots_20 ?_
        refine r_icmp_ge (tgt := 112) (pc := 23) C d_C_countSlots_23 (by decide) ?_ ?_
        · intro hc; replace h := h.1 hc
          refine r_sub [0, 1] rfl ?_
          exact hk l1 l2 μ h
        · intro hc; replace h := h.2 hc
          refine r_aload_n (pc := 26) C d_C_countSlots_26 rfl 0 rfl ?_
          refine r_getR (pc := 27) (ci := 0) C rfl 6 (by decide) (k_112 C.w) rfl (lay_O rfl) d_C_countSlots_27 ?_
          refine r_iload_n (pc := 30) C d_C_countSlots_30 rfl 2 rfl ?_
          refine r_cVq (pc := 31) (a' := 0) (b' := 0) (As := [.inl l2]) (ci := 4) C (c_W_get C.s h) o_W_get rfl (lay_O rfl) (k_205 C.w) rfl ⟨by decide, by decide, by decide, by decide⟩ rfl rfl (Nat.le_of_ble_eq_true rfl) d_C_countSlots_31 rfl ?_
          intro r3 μ2 h
          refine r_astore_n (pc := 34) (lv' := [(0, .inr (.inl (some 0))), (1, .inl l1), (2, .inl l2)]) C d_C_countSlots_34 rfl (by decide) rfl ?_
          refine r_aload_n (pc := 35) C d_C_countSlots_35 rfl 0 rfl ?_
          refine r_ifnonnull (tgt := 42) (pc := 36) C d_C_countSlots_36 (by decide) ?_ ?_
          · intro y4 h0; subst h0; replace h := h.2 y4 rfl
            refine r_aload_n (pc := 42) C d_C_countSlots_42 rfl 0 rfl ?_
            obtain ⟨o5, h⟩ := h
            refine r_cVi (pc := 43) (a' := 0) (b' := 0) (As := []) (ci := 5) C (c_I_isOld C.s h) o_I_isOld rfl (ok_O o5) (k_209 C.w) rfl ⟨by decide, by decide, by decide, by decide⟩ rfl rfl (Nat.le_of_ble_eq_true rfl) d_C_countSlots_43 rfl ?_
            intro r7 μ6 h
            refine r_if_eq (tgt := 66) (pc := 46) C d_C_countSlots_46 (by decide) ?_ ?_
            · intro hc; replace h := h.1 hc
              refine r_iinc (pc := 66) (v := 1) (lv' := [(3, .inr (.inl (some y4))), (0, .inr (.inl (some 0))), (2, .inl l2)]) C d_C_countSlots_66 2 rfl (by decide) (by decide) rfl ?_
              refine r_aload_n (pc := 69) C d_C_countSlots_69 rfl 1 rfl ?_
              refine r_aload_n (pc := 70) C d_C_countSlots_70 rfl 2 rfl ?_
              refine r_getI (pc := 71) (ci := 0) C rfl 7 (by decide) (k_113 C.w) rfl (lay_O rfl) d_C_countSlots_71 ?_
              refine r_if_eq (tgt := 81) (pc := 74) C d_C_countSlots_74 (by decide) ?_ ?_
              · intro hc; replace h := h.1 hc
                refine r_iconst (pc := 81) C d_C_countSlots_81 (v := 0) (by decide) ?_
                refine r_sub [2, 0, 3, 1] rfl ?_
                exact J_82 (l1 + 1) l2 y4 y4 0 ((wC_countSlots_8 k n)) ih μ6 h
              · intro hc; replace h := h.2 hc
                refine r_iconst (pc := 77) C d_C_countSlots_77 (v := 2) (by decide) ?_
                refine r_goto (tgt := 82) (pc := 78) C d_C_countSlots_78 (by decide) ?_
                refine r_sub [2, 0, 3, 1] rfl ?_
                exact J_82 (l1 + 1) l2 y4 y4 2 ((wC_countSlots_8 k n)) ih μ6 h
            · intro hc; replace h := h.2 hc
              refine r_aload_n (pc := 49) C d_C_countSlots_49 rfl 0 rfl ?_
              refine r_aload_n (pc := 50) C d_C_countSlots_50 rfl 0 rfl ?_
              obtain ⟨o15, h⟩ := h
              refine r_getI (pc := 51) (ci := 5) C rfl 5 (by decide) (k_472 C.w) rfl (ok_O o15) d_C_countSlots_51 ?_
              refine r_iconst (pc := 54) C d_C_countSlots_54 (v := 1) (by decide) ?_
              refine r_iadd (pc := 55) C d_C_countSlots_55 ?_
              refine r_iconst (pc := 56) C d_C_countSlots_56 (v := 3) (by decide) ?_
              refine r_min (pc := 57) C (k_210 C.w) (x_minS C.w) (x_minI C.w) (x_minC C.w) ⟨by decide, Nat.le_of_ble_eq_true rfl, by decide, by decide⟩ d_C_countSlots_57 ?_
              refine r_putI (pc := 60) (ci := 5) C rfl 5 (by decide) (k_472 C.w) rfl rfl p_I (ok_O o15) d_C_countSlots_60 ?_
              intro μ16 eμ16; replace h := h μ16 eμ16
              refine r_goto (tgt := 106) (pc := 63) C d_C_countSlots_63 (by decide) ?_
              refine r_iinc (pc := 106) (v := 1) (lv' := [(3, .inr (.inl (some y4))), (0, .inr (.inl (some 0))), (1, .inl l1)]) C d_C_countSlots_106 3 rfl (by decide) (by decide) rfl ?_
              refine r_goto (tgt := 8) (pc := 109) C d_C_countSlots_109 (by decide) ?_
              refine r_sub [2, 3, 0] rfl ?_
              exact ih l1 (l2 + 1) μ16 h
          · intro h0; subst h0; replace h := h.1 rfl
            refine r_goto (tgt := 106) (pc := 39) C d_C_countSlots_39 (by decide) ?_
            refine r_iinc (pc := 106) (v := 1) (lv' := [(3, .inr (.inl none)), (0, .inr (.inl (some 0))), (1, .inl l1)]) C d_C_countSlots_106 3 rfl (by decide) (by decide) rfl ?_
            refine r_goto (tgt := 8) (pc := 109) C d_C_countSlots_109 (by decide) ?_
            refine r_sub [2, 3, 0] rfl ?_
            exact ih l1 (l2 + 1) μ2 h
  unfold wC_countSlots at h
  refine r_aload_n (pc := 0) C d_C_countSlots_0 rfl 0 rfl ?_
  refine r_cVv (pc := 1) (a' := 0) (b' := 0) (As := []) (ci := 0) C (c_C_gatherSlots C.s h) o_C_gatherSlots rfl (lay_O rfl) (k_193 C.w) rfl ⟨by decide, by decide, by decide, by decide⟩ rfl rfl (Nat.le_of_ble_eq_true rfl) d_C_countSlots_1 rfl ?_
  intro μ1 h
  refine r_iconst (pc := 4) C d_C_countSlots_4 (v := 0) (by decide) ?_
  refine r_istore_n (pc := 5) (lv' := [(0, .inr (.inl (some 0)))]) C d_C_countSlots_5 rfl (by decide) rfl ?_
  refine r_iconst (pc := 6) C d_C_countSlots_6 (v := 0) (by decide) ?_
  refine r_istore_n (pc := 7) (lv' := [(1, .inl 0), (0, .inr (.inl (some 0)))]) C d_C_countSlots_7 rfl (by decide) rfl ?_
  obtain ⟨n21, h⟩ := h
  refine r_sub [2, 1, 0] rfl ?_
  refine L_8 _ ?_ n21 0 0 μ1 h
  intro v18 v19 μ17 h
  refine r_aload_n (pc := 112) C d_C_countSlots_112 rfl 0 rfl ?_
  refine r_getR (pc := 113) (ci := 0) C rfl 3 (by decide) (k_109 C.w) rfl (lay_O rfl) d_C_countSlots_113 ?_
  refine r_cVv (pc := 116) (a' := 0) (b' := 0) (As := []) (ci := 1) C (c_P_forgetMovedOut C.s h) o_P_forgetMovedOut rfl (lay_O rfl) (k_269 C.w) rfl ⟨by decide, by decide, by decide, by decide⟩ rfl rfl (Nat.le_of_ble_eq_true rfl) d_C_countSlots_116 rfl ?_
  intro μ20 h
  refine r_iload_n (pc := 119) C d_C_countSlots_119 rfl 1 rfl ?_
  exact r_iret (pc := 120) C d_C_countSlots_120 (by decide) (by decide) h
theorem c_C_loseYoung {l : Launch} (hl : l.stackTraces = false) {G : Gl} {post : Mem → Prop} {μ : Mem} (h : wC_loseYoung post μ) : Ct l G i_C_loseYoung [.inr (.inl (some 0))] μ (poV post) noX := by
  refine ct_of hl (by decide) (Nat.le_of_ble_eq_true rfl) ?_
  intro K hKl C hE
  clear hl hKl
  replace C : Cx K G prog_1_method_36_code "LineCollector" 5 { frames := 2, cells := 0, slots := 0, locals := 44 } (none) (poV post) noX := C
  show Rn K G 5 0 [(0, .inr (.inl (some 0)))] [] μ 0 0
  have L_10 : ∀ (l2 : Int32) (k : Int32 → Mem → Prop), (∀ (v3 : Int32) (μ : Mem), k v3 μ → Rn K G 5 45 [] [] μ 0 0) → ∀ (n : Nat) (l3 : Int32) (μ : Mem), wC_loseYoung_10 l2 k n l3 μ → Rn K G 5 10 [(0, .inr (.inl (some 0))), (1, .inr (.inl (some 3))), (2, .inl l2), (3, .inl l3)] [] μ 0 0 := by
    intro l2 k hk n
    induction n with
    | zero => intro l3 μ h; exact h.elim
    | succ n ih =>
      intro l3 μ h
      unfold wC_loseYoung_10 at h
      refine r_iload_n (pc := 10) C d_C_loseYoung_10 rfl 3 rfl ?_
      refine r_iload_n (pc := 11) C d_C_loseYoung_11 rfl 2 rfl ?_
      refine r_icmp_ge (tgt := 45) (pc := 12) C d_C_loseYoung_12 (by decide) ?_ ?_
      · intro hc; replace h := h.1 hc
        refine r_sub [] rfl ?_
        exact hk l3 μ h
      · intro hc; replace h := h.2 hc
        refine r_aload_n (pc := 15) C d_C_loseYoung_15 rfl 1 rfl ?_
        refine r_iload_n (pc := 16) C d_C_loseYoung_16 rfl 3 rfl ?_
        obtain ⟨b1, h⟩ := h
        refine r_aald (pc := 17) C (lay_A rfl) b1 d_C_loseYoung_17 ?_
        intro e2 he2; replace h := h e2 he2
        refine r_astore (pc := 18) (lv' := [(0, .inr (.inl (some 0))), (1, .inr (.inl (some 3))), (2, .inl l2), (3, .inl l3)]) C d_C_loseYoung_18 (by decide) rfl ?_
        refine r_aload (pc := 20) C d_C_loseYoung_20 0 rfl ?_
        refine r_ifnull (tgt := 39) (pc := 22) C d_C_loseYoung_22 (by decide) ?_ ?_
        · intro h0; subst h0; replace h := h.1 rfl
          refine r_iinc (pc := 39) (v := 1) (lv' := [(4, .inr (.inl none)), (0, .inr (.inl (some 0))), (1, .inr (.inl (some 3))), (2, .inl l2)]) C d_C_loseYoung_39 4 rfl (by decide) (by decide) rfl ?_
          refine r_goto (tgt := 10) (pc := 42) C d_C_loseYoung_42 (by decide) ?_
          refine r_sub [2, 3, 4, 0] rfl ?_
          exact ih (l3 + 1) μ h
        · intro y3 h0; subst h0; replace h := h.2 y3 rfl
          refine r_aload (pc := 25) C d_C_loseYoung_25 0 rfl ?_
          obtain ⟨o4, h⟩ := h
          refine r_cVi (pc := 27) (a' := 0) (b' := 0) (As := []) (ci := 5) C (c_I_isOld C.s h) o_I_isOld rfl (ok_O o4) (k_209 C.w) rfl ⟨by decide, by decide, by decide, by decide⟩ rfl rfl (Nat.le_of_ble_eq_true rfl) d_C_loseYoung_27 rfl ?_
          intro r6 μ5 h
          refine r_if_ne (tgt := 39) (pc := 30) C d_C_loseYoung_30 (by decide) ?_ ?_
          · intro hc; replace h := h.2 hc
            refine r_iinc (pc := 39) (v := 1) (lv' := [(4, .inr (.inl (some y3))), (0, .inr (.inl (some 0))), (1, .inr (.inl (some 3))), (2, .inl l2)]) C d_C_loseYoung_39 4 rfl (by decide) (by decide) rfl ?_
            refine r_goto (tgt := 10) (pc := 42) C d_C_loseYoung_42 (by decide) ?_
            refine r_sub [2, 3, 4, 0] rfl ?_
            exact ih (l3 + 1) μ5 h
          · intro hc; replace h := h.1 hc
            refine r_aload_n (pc := 33) C d_C_loseYoung_33 rfl 1 rfl ?_
            refine r_aload (pc := 34) C d_C_loseYoung_34 0 rfl ?_
            refine r_cVv (pc := 36) (a' := 0) (b' := 0) (As := [.inr (.inl (some y3))]) (ci := 0) C (c_C_remove C.s h) o_C_remove rfl (lay_O rfl) (k_157 C.w) rfl ⟨by decide, by decide, by decide, by decide⟩ rfl rfl (Nat.le_of_ble_eq_true rfl) d_C_loseYoung_36 rfl ?_
            intro μ7 h
            refine r_iinc (pc := 39) (v := 1) (lv' := [(4, .inr (.inl (some y3))), (0, .inr (.inl (some 0))), (1, .inr (.inl (some 3))), (2, .inl l2)]) C d_C_loseYoung_39 4 rfl (by decide) (by decide) rfl ?_
            refine r_goto (tgt := 10) (pc := 42) C d_C_loseYoung_42 (by decide) ?_
            refine r_sub [2, 3, 4, 0] rfl ?_
            exact ih (l3 + 1) μ7 h
  unfold wC_loseYoung at h
  refine r_aload_n (pc := 0) C d_C_loseYoung_0 rfl 0 rfl ?_
  refine r_getR (pc := 1) (ci := 0) C rfl 2 (by decide) (k_108 C.w) rfl (lay_O rfl) d_C_loseYoung_1 ?_
  refine r_astore_n (pc := 4) (lv' := [(0, .inr (.inl (some 0)))]) C d_C_loseYoung_4 rfl (by decide) rfl ?_
  refine r_aload_n (pc := 5) C d_C_loseYoung_5 rfl 0 rfl ?_
  refine r_alenQ (pc := 6) (v := 128) C (lay_A rfl) (by decide) d_C_loseYoung_6 ?_
  refine r_istore_n (pc := 7) (lv' := [(1, .inr (.inl (some 3))), (0, .inr (.inl (some 0)))]) C d_C_loseYoung_7 rfl (by decide) rfl ?_
  refine r_iconst (pc := 8) C d_C_loseYoung_8 (v := 0) (by decide) ?_
  refine r_istore_n (pc := 9) (lv' := [(2, .inl 128), (1, .inr (.inl (some 3))), (0, .inr (.inl (some 0)))]) C d_C_loseYoung_9 rfl (by decide) rfl ?_
  obtain ⟨n10, h⟩ := h
  refine r_sub [3, 2, 1, 0] rfl ?_
  refine L_10 128 _ ?_ n10 0 μ h
  intro v9 μ8 h
  exact r_vret (pc := 45) C d_C_loseYoung_45 (by decide) (by decide) h
theorem c_G_heldBefore {l : Launch} (hl : l.stackTraces = false) {G : Gl} {a1 : Int32} {post : Option Nat → Mem → Prop} {μ : Mem} (h : wG_heldBefore a1 post μ) : Ct l G i_G_heldBefore [.inr (.inl (some 9)), .inl a1] μ (poQ G post) noX := by
  refine ct_of hl (by decide) (Nat.le_of_ble_eq_true rfl) ?_
  intro K hKl C hE
  clear hl hKl
  replace C : Cx K G prog_3_method_4_code "LineCollector$Log" 2 { frames := 0, cells := 0, slots := 0, locals := 0 } (some (.object "LineCollector$Item")) (poQ G post) noX := C
  show Rn K G 2 0 [(0, .inr (.inl (some 9))), (1, .inl a1)] [] μ 0 0
  unfold wG_heldBefore at h
  refine r_aload_n (pc := 0) C d_G_heldBefore_0 rfl 0 rfl ?_
  refine r_getR (pc := 1) (ci := 3) C rfl 2 (by decide) (k_76 C.w) rfl (lay_O rfl) d_G_heldBefore_1 ?_
  refine r_iload_n (pc := 4) C d_G_heldBefore_4 rfl 1 rfl ?_
  obtain ⟨b1, h⟩ := h
  refine r_aald (pc := 5) C (lay_A rfl) b1 d_G_heldBefore_5 ?_
  intro e2 he2; replace h := h e2 he2
  exact r_aret (pc := 6) C d_G_heldBefore_6 (by decide) (by decide) h
theorem c_G_clear {l : Launch} (hl : l.stackTraces = false) {G : Gl} {post : Mem → Prop} {μ : Mem} (h : wG_clear post μ) : Ct l G i_G_clear [.inr (.inl (some 9))] μ (poV post) noX := by
  refine ct_of hl (by decide) (Nat.le_of_ble_eq_true rfl) ?_
  intro K hKl C hE
  clear hl hKl
  replace C : Cx K G prog_3_method_5_code "LineCollector$Log" 2 { frames := 0, cells := 0, slots := 0, locals := 0 } (none) (poV post) noX := C
  show Rn K G 2 0 [(0, .inr (.inl (some 9)))] [] μ 0 0
  have L_2 : ∀ (k : Int32 → Mem → Prop), (∀ (v1 : Int32) (μ : Mem), k v1 μ → Rn K G 2 33 [(0, .inr (.inl (some 9)))] [] μ 0 0) → ∀ (n : Nat) (l1 : Int32) (μ : Mem), wG_clear_2 k n l1 μ → Rn K G 2 2 [(0, .inr (.inl (some 9))), (1, .inl l1)] [] μ 0 0 := by
    intro k hk n
    induction n with
    | zero => intro l1 μ h; exact h.elim
    | succ n ih =>
      intro l1 μ h
      unfold wG_clear_2 at h
      refine r_iload_n (pc := 2) C d_G_clear_2 rfl 1 rfl ?_
      refine r_aload_n (pc := 3) C d_G_clear_3 rfl 0 rfl ?_
      refine r_getI (pc := 4) (ci := 3) C rfl 3 (by decide) (k_77 C.w) rfl (lay_O rfl) d_G_clear_4 ?_
      refine r_icmp_ge (tgt := 33) (pc := 7) C d_G_clear_7 (by decide) ?_ ?_
      · intro hc; replace h := h.1 hc
        refine r_sub [0] rfl ?_
        exact hk l1 μ h
      · intro hc; replace h := h.2 hc
        refine r_aload_n (pc := 10) C d_G_clear_10 rfl 0 rfl ?_
        refine r_getR (pc := 11) (ci := 3) C rfl 0 (by decide) (k_74 C.w) rfl (lay_O rfl) d_G_clear_11 ?_
        refine r_iload_n (pc := 14) C d_G_clear_14 rfl 1 rfl ?_
        obtain ⟨b1, h⟩ := h
        refine r_aald (pc := 15) C (lay_A rfl) b1 d_G_clear_15 ?_
        intro e2 he2; replace h := h e2 he2
        obtain ⟨y3, rfl, h⟩ := h
        obtain ⟨o4, h⟩ := h
        refine r_getR (pc := 16) (ci := 5) C rfl 3 (by decide) (k_468 C.w) rfl (ok_O o4) d_G_clear_16 ?_
        refine r_aload_n (pc := 19) C d_G_clear_19 rfl 0 rfl ?_
        refine r_getR (pc := 20) (ci := 3) C rfl 1 (by decide) (k_75 C.w) rfl (lay_O rfl) d_G_clear_20 ?_
        refine r_iload_n (pc := 23) C d_G_clear_23 rfl 1 rfl ?_
        refine r_iald (pc := 24) C (lay_A rfl) b1 d_G_clear_24 ?_
        refine r_iconst (pc := 25) C d_G_clear_25 (v := 0) (by decide) ?_
        obtain ⟨o5, h⟩ := h
        obtain ⟨b6, h⟩ := h
        refine r_zast (pc := 26) C (ok_A o5) b6 d_G_clear_26 (Or.inl rfl) ?_
        intro μ7 eμ7; replace h := h μ7 eμ7
        refine r_iinc (pc := 27) (v := 1) (lv' := [(0, .inr (.inl (some 9)))]) C d_G_clear_27 1 rfl (by decide) (by decide) rfl ?_
        refine r_goto (tgt := 2) (pc := 30) C d_G_clear_30 (by decide) ?_
        refine r_sub [1, 0] rfl ?_
        exact ih (l1 + 1) μ7 h
  unfold wG_clear at h
  refine r_iconst (pc := 0) C d_G_clear_0 (v := 0) (by decide) ?_
  refine r_istore_n (pc := 1) (lv' := [(0, .inr (.inl (some 9)))]) C d_G_clear_1 rfl (by decide) rfl ?_
  obtain ⟨n11, h⟩ := h
  refine r_sub [1, 0] rfl ?_
  refine L_2 _ ?_ n11 0 μ h
  intro v9 μ8 h
  refine r_aload_n (pc := 33) C d_G_clear_33 rfl 0 rfl ?_
  refine r_iconst (pc := 34) C d_G_clear_34 (v := 0) (by decide) ?_
  refine r_putI (pc := 35) (ci := 3) C rfl 3 (by decide) (k_77 C.w) rfl rfl p_I (lay_O rfl) d_G_clear_35 ?_
  intro μ10 eμ10; replace h := h μ10 eμ10
  exact r_vret (pc := 38) C d_G_clear_38 (by decide) (by decide) h
theorem c_C_queueRootsAndLog {l : Launch} (hl : l.stackTraces = false) {G : Gl} {post : Mem → Prop} {μ : Mem} (h : wC_queueRootsAndLog post μ) : Ct l G i_C_queueRootsAndLog [.inr (.inl (some 0))] μ (poV post) noX := by
  refine ct_of hl (by decide) (Nat.le_of_ble_eq_true rfl) ?_
  intro K hKl C hE
  clear hl hKl
  replace C : Cx K G prog_1_method_37_code "LineCollector" 5 { frames := 3, cells := 0, slots := 0, locals := 60 } (none) (poV post) noX := C
  show Rn K G 5 0 [(0, .inr (.inl (some 0)))] [] μ 0 0
  have L_10 : ∀ (l2 : Int32) (k : Int32 → Mem → Prop), (∀ (v3 : Int32) (μ : Mem), k v3 μ → Rn K G 5 40 [(0, .inr (.inl (some 0)))] [] μ 0 0) → ∀ (n : Nat) (l3 : Int32) (μ : Mem), wC_queueRootsAndLog_10 l2 k n l3 μ → Rn K G 5 10 [(0, .inr (.inl (some 0))), (1, .inr (.inl (some 2))), (2, .inl l2), (3, .inl l3)] [] μ 0 0 := by
    intro l2 k hk n
    induction n with
    | zero => intro l3 μ h; exact h.elim
    | succ n ih =>
      intro l3 μ h
      unfold wC_queueRootsAndLog_10 at h
      refine r_iload_n (pc := 10) C d_C_queueRootsAndLog_10 rfl 3 rfl ?_
      refine r_iload_n (pc := 11) C d_C_queueRootsAndLog_11 rfl 2 rfl ?_
      refine r_icmp_ge (tgt := 40) (pc := 12) C d_C_queueRootsAndLog_12 (by decide) ?_ ?_
      · intro hc; replace h := h.1 hc
        refine r_sub [0] rfl ?_
        exact hk l3 μ h
      · intro hc; replace h := h.2 hc
        refine r_aload_n (pc := 15) C d_C_queueRootsAndLog_15 rfl 1 rfl ?_
        refine r_iload_n (pc := 16) C d_C_queueRootsAndLog_16 rfl 3 rfl ?_
        obtain ⟨b1, h⟩ := h
        refine r_aald (pc := 17) C (lay_A rfl) b1 d_C_queueRootsAndLog_17 ?_
        intro e2 he2; replace h := h e2 he2
        refine r_astore (pc := 18) (lv' := [(0, .inr (.inl (some 0))), (1, .inr (.inl (some 2))), (2, .inl l2), (3, .inl l3)]) C d_C_queueRootsAndLog_18 (by decide) rfl ?_
        refine r_aload (pc := 20) C d_C_queueRootsAndLog_20 0 rfl ?_
        refine r_ifnull (tgt := 34) (pc := 22) C d_C_queueRootsAndLog_22 (by decide) ?_ ?_
        · intro h0; subst h0; replace h := h.1 rfl
          refine r_iinc (pc := 34) (v := 1) (lv' := [(4, .inr (.inl none)), (0, .inr (.inl (some 0))), (1, .inr (.inl (some 2))), (2, .inl l2)]) C d_C_queueRootsAndLog_34 4 rfl (by decide) (by decide) rfl ?_
          refine r_goto (tgt := 10) (pc := 37) C d_C_queueRootsAndLog_37 (by decide) ?_
          refine r_sub [2, 3, 4, 0] rfl ?_
          exact ih (l3 + 1) μ h
        · intro y3 h0; subst h0; replace h := h.2 y3 rfl
          refine r_aload_n (pc := 25) C d_C_queueRootsAndLog_25 rfl 1 rfl ?_
          refine r_getR (pc := 26) (ci := 0) C rfl 5 (by decide) (k_111 C.w) rfl (lay_O rfl) d_C_queueRootsAndLog_26 ?_
          refine r_aload (pc := 29) C d_C_queueRootsAndLog_29 0 rfl ?_
          refine r_cVv (pc := 31) (a' := 0) (b' := 0) (As := [.inr (.inl (some y3))]) (ci := 4) C (c_W_add C.s h) o_W_add rfl (lay_O rfl) (k_165 C.w) rfl ⟨by decide, by decide, by decide, by decide⟩ rfl rfl (Nat.le_of_ble_eq_true rfl) d_C_queueRootsAndLog_31 rfl ?_
          intro μ4 h
          refine r_iinc (pc := 34) (v := 1) (lv' := [(4, .inr (.inl (some y3))), (0, .inr (.inl (some 0))), (1, .inr (.inl (some 2))), (2, .inl l2)]) C d_C_queueRootsAndLog_34 4 rfl (by decide) (by decide) rfl ?_
          refine r_goto (tgt := 10) (pc := 37) C d_C_queueRootsAndLog_37 (by decide) ?_
          refine r_sub [2, 3, 4, 0] rfl ?_
          exact ih (l3 + 1) μ4 h
  have L_42 : ∀ (k : Int32 → Mem → Prop), (∀ (v1 : Int32) (μ : Mem), k v1 μ → Rn K G 5 94 [(0, .inr (.inl (some 0)))] [] μ 0 0) → ∀ (n : Nat) (l1 : Int32) (μ : Mem), wC_queueRootsAndLog_42 k n l1 μ → Rn K G 5 42 [(0, .inr (.inl (some 0))), (1, .inl l1)] [] μ 0 0 := by
    intro k hk n
    induction n with
    | zero => intro l1 μ h; exact h.elim
    | succ n ih =>
      intro l1 μ h
      unfold wC_queueRootsAndLog_42 at h
      refine r_iload_n (pc := 42) C d_C_queueRootsAndLog_42 rfl 1 rfl ?_
      refine r_aload_n (pc := 43) C d_C_queueRootsAndLog_43 rfl 0 rfl ?_
      refine r_getR (pc := 44) (ci := 0) C rfl 4 (by decide) (k_110 C.w) rfl (lay_O rfl) d_C_queueRootsAndLog_44 ?_
      refine r_getI (pc := 47) (ci := 3) C rfl 3 (by decide) (k_78 C.w) rfl (lay_O rfl) d_C_queueRootsAndLog_47 ?_
      refine r_icmp_ge (tgt := 94) (pc := 50) C d_C_queueRootsAndLog_50 (by decide) ?_ ?_
      · intro hc; replace h := h.1 hc
        refine r_sub [0] rfl ?_
        exact hk l1 μ h
      · intro hc; replace h := h.2 hc
        refine r_aload_n (pc := 53) C d_C_queueRootsAndLog_53 rfl 0 rfl ?_
        refine r_getR (pc := 54) (ci := 0) C rfl 4 (by decide) (k_110 C.w) rfl (lay_O rfl) d_C_queueRootsAndLog_54 ?_
        refine r_iload_n (pc := 57) C d_C_queueRootsAndLog_57 rfl 1 rfl ?_
        refine r_cVq (pc := 58) (a' := 0) (b' := 0) (As := [.inl l1]) (ci := 3) C (c_G_heldBefore C.s h) o_G_heldBefore rfl (lay_O rfl) (k_281 C.w) rfl ⟨by decide, by decide, by decide, by decide⟩ rfl rfl (Nat.le_of_ble_eq_true rfl) d_C_queueRootsAndLog_58 rfl ?_
        intro r8 μ7 h
        refine r_astore_n (pc := 61) (lv' := [(0, .inr (.inl (some 0))), (1, .inl l1)]) C d_C_queueRootsAndLog_61 rfl (by decide) rfl ?_
        refine r_aload_n (pc := 62) C d_C_queueRootsAndLog_62 rfl 0 rfl ?_
        refine r_ifnonnull (tgt := 69) (pc := 63) C d_C_queueRootsAndLog_63 (by decide) ?_ ?_
        · intro y9 h0; subst h0; replace h := h.2 y9 rfl
          refine r_aload_n (pc := 69) C d_C_queueRootsAndLog_69 rfl 1 rfl ?_
          refine r_getR (pc := 70) (ci := 0) C rfl 5 (by decide) (k_111 C.w) rfl (lay_O rfl) d_C_queueRootsAndLog_70 ?_
          refine r_aload_n (pc := 73) C d_C_queueRootsAndLog_73 rfl 0 rfl ?_
          refine r_cVv (pc := 74) (a' := 0) (b' := 0) (As := [.inr (.inl (some y9))]) (ci := 4) C (c_W_add C.s h) o_W_add rfl (lay_O rfl) (k_165 C.w) rfl ⟨by decide, by decide, by decide, by decide⟩ rfl rfl (Nat.le_of_ble_eq_true rfl) d_C_queueRootsAndLog_74 rfl ?_
          intro μ10 h
          refine r_aload_n (pc := 77) C d_C_queueRootsAndLog_77 rfl 1 rfl ?_
          refine r_getI (pc := 78) (ci := 0) C rfl 7 (by decide) (k_113 C.w) rfl (lay_O rfl) d_C_queueRootsAndLog_78 ?_
          refine r_if_eq (tgt := 88) (pc := 81) C d_C_queueRootsAndLog_81 (by decide) ?_ ?_
          · intro hc; replace h := h.1 hc
            refine r_iinc (pc := 88) (v := 1) (lv' := [(2, .inr (.inl (some y9))), (0, .inr (.inl (some 0)))]) C d_C_queueRootsAndLog_88 2 rfl (by decide) (by decide) rfl ?_
            refine r_goto (tgt := 42) (pc := 91) C d_C_queueRootsAndLog_91 (by decide) ?_
            refine r_sub [2, 0] rfl ?_
            exact ih (l1 + 1) μ10 h
          · intro hc; replace h := h.2 hc
            refine r_aload_n (pc := 84) C d_C_queueRootsAndLog_84 rfl 0 rfl ?_
            obtain ⟨o11, h⟩ := h
            refine r_cVv (pc := 85) (a' := 0) (b' := 0) (As := []) (ci := 5) C (c_I_turnGreyIfWhite C.s h) o_I_turnGreyIfWhite rfl (ok_O o11) (k_169 C.w) rfl ⟨by decide, by decide, by decide, by decide⟩ rfl rfl (Nat.le_of_ble_eq_true rfl) d_C_queueRootsAndLog_85 rfl ?_
            intro μ12 h
            refine r_iinc (pc := 88) (v := 1) (lv' := [(2, .inr (.inl (some y9))), (0, .inr (.inl (some 0)))]) C d_C_queueRootsAndLog_88 2 rfl (by decide) (by decide) rfl ?_
            refine r_goto (tgt := 42) (pc := 91) C d_C_queueRootsAndLog_91 (by decide) ?_
            refine r_sub [2, 0] rfl ?_
            exact ih (l1 + 1) μ12 h
        · intro h0; subst h0; replace h := h.1 rfl
          refine r_goto (tgt := 88) (pc := 66) C d_C_queueRootsAndLog_66 (by decide) ?_
          refine r_iinc (pc := 88) (v := 1) (lv' := [(2, .inr (.inl none)), (0, .inr (.inl (some 0)))]) C d_C_queueRootsAndLog_88 2 rfl (by decide) (by decide) rfl ?_
          refine r_goto (tgt := 42) (pc := 91) C d_C_queueRootsAndLog_91 (by decide) ?_
          refine r_sub [2, 0] rfl ?_
          exact ih (l1 + 1) μ7 h
  unfold wC_queueRootsAndLog at h
  refine r_aload_n (pc := 0) C d_C_queueRootsAndLog_0 rfl 0 rfl ?_
  refine r_getR (pc := 1) (ci := 0) C rfl 1 (by decide) (k_107 C.w) rfl (lay_O rfl) d_C_queueRootsAndLog_1 ?_
  refine r_astore_n (pc := 4) (lv' := [(0, .inr (.inl (some 0)))]) C d_C_queueRootsAndLog_4 rfl (by decide) rfl ?_
  refine r_aload_n (pc := 5) C d_C_queueRootsAndLog_5 rfl 0 rfl ?_
  refine r_alenQ (pc := 6) (v := 6) C (lay_A rfl) (by decide) d_C_queueRootsAndLog_6 ?_
  refine r_istore_n (pc := 7) (lv' := [(1, .inr (.inl (some 2))), (0, .inr (.inl (some 0)))]) C d_C_queueRootsAndLog_7 rfl (by decide) rfl ?_
  refine r_iconst (pc := 8) C d_C_queueRootsAndLog_8 (v := 0) (by decide) ?_
  refine r_istore_n (pc := 9) (lv' := [(2, .inl 6), (1, .inr (.inl (some 2))), (0, .inr (.inl (some 0)))]) C d_C_queueRootsAndLog_9 rfl (by decide) rfl ?_
  obtain ⟨n17, h⟩ := h
  refine r_sub [3, 2, 1, 0] rfl ?_
  refine L_10 6 _ ?_ n17 0 μ h
  intro v6 μ5 h
  refine r_iconst (pc := 40) C d_C_queueRootsAndLog_40 (v := 0) (by decide) ?_
  refine r_istore_n (pc := 41) (lv' := [(0, .inr (.inl (some 0)))]) C d_C_queueRootsAndLog_41 rfl (by decide) rfl ?_
  obtain ⟨n16, h⟩ := h
  refine r_sub [1, 0] rfl ?_
  refine L_42 _ ?_ n16 0 μ5 h
  intro v14 μ13 h
  refine r_aload_n (pc := 94) C d_C_queueRootsAndLog_94 rfl 0 rfl ?_
  refine r_getR (pc := 95) (ci := 0) C rfl 4 (by decide) (k_110 C.w) rfl (lay_O rfl) d_C_queueRootsAndLog_95 ?_
  refine r_cVv (pc := 98) (a' := 0) (b' := 0) (As := []) (ci := 3) C (c_G_clear C.s h) o_G_clear rfl (lay_O rfl) (k_285 C.w) rfl ⟨by decide, by decide, by decide, by decide⟩ rfl rfl (Nat.le_of_ble_eq_true rfl) d_C_queueRootsAndLog_98 rfl ?_
  intro μ15 h
  exact r_vret (pc := 101) C d_C_queueRootsAndLog_101 (by decide) (by decide) h
theorem c_C_rememberRoots {l : Launch} (hl : l.stackTraces = false) {G : Gl} {post : Mem → Prop} {μ : Mem} (h : wC_rememberRoots post μ) : Ct l G i_C_rememberRoots [.inr (.inl (some 0))] μ (poV post) noX := by
  refine ct_of hl (by decide) (Nat.le_of_ble_eq_true rfl) ?_
  intro K hKl C hE
  clear hl hKl
  replace C : Cx K G prog_1_method_31_code "LineCollector" 2 { frames := 0, cells := 0, slots := 0, locals := 0 } (none) (poV post) noX := C
  show Rn K G 2 0 [(0, .inr (.inl (some 0)))] [] μ 0 0
  have L_2 : ∀ (k : Int32 → Mem → Prop), (∀ (v1 : Int32) (μ : Mem), k v1 μ → Rn K G 2 26 [] [] μ 0 0) → ∀ (n : Nat) (l1 : Int32) (μ : Mem), wC_rememberRoots_2 k n l1 μ → Rn K G 2 2 [(0, .inr (.inl (some 0))), (1, .inl l1)] [] μ 0 0 := by
    intro k hk n
    induction n with
    | zero => intro l1 μ h; exact h.elim
    | succ n ih =>
      intro l1 μ h
      unfold wC_rememberRoots_2 at h
      refine r_iload_n (pc := 2) C d_C_rememberRoots_2 rfl 1 rfl ?_
      refine r_bipush (pc := 3) C d_C_rememberRoots_3 (v := 6) (by decide) ?_
      refine r_icmp_ge (tgt := 26) (pc := 5) C d_C_rememberRoots_5 (by decide) ?_ ?_
      · intro hc; replace h := h.1 hc
        refine r_sub [] rfl ?_
        exact hk l1 μ h
      · intro hc; replace h := h.2 hc
        refine r_aload_n (pc := 8) C d_C_rememberRoots_8 rfl 0 rfl ?_
        refine r_getR (pc := 9) (ci := 0) C rfl 1 (by decide) (k_107 C.w) rfl (lay_O rfl) d_C_rememberRoots_9 ?_
        refine r_iload_n (pc := 12) C d_C_rememberRoots_12 rfl 1 rfl ?_
        refine r_aload_n (pc := 13) C d_C_rememberRoots_13 rfl 0 rfl ?_
        refine r_getR (pc := 14) (ci := 0) C rfl 0 (by decide) (k_106 C.w) rfl (lay_O rfl) d_C_rememberRoots_14 ?_
        refine r_iload_n (pc := 17) C d_C_rememberRoots_17 rfl 1 rfl ?_
        obtain ⟨b1, h⟩ := h
        refine r_aald (pc := 18) C (lay_A rfl) b1 d_C_rememberRoots_18 ?_
        intro e2 he2; replace h := h e2 he2
        obtain ⟨o4, h⟩ := h
        refine r_aast (pc := 19) C (lay_A rfl) b1 d_C_rememberRoots_19 o4 ?_
        intro μ3 eμ3; replace h := h μ3 eμ3
        refine r_iinc (pc := 20) (v := 1) (lv' := [(0, .inr (.inl (some 0)))]) C d_C_rememberRoots_20 1 rfl (by decide) (by decide) rfl ?_
        refine r_goto (tgt := 2) (pc := 23) C d_C_rememberRoots_23 (by decide) ?_
        refine r_sub [1, 0] rfl ?_
        exact ih (l1 + 1) μ3 h
  unfold wC_rememberRoots at h
  refine r_iconst (pc := 0) C d_C_rememberRoots_0 (v := 0) (by decide) ?_
  refine r_istore_n (pc := 1) (lv' := [(0, .inr (.inl (some 0)))]) C d_C_rememberRoots_1 rfl (by decide) rfl ?_
  obtain ⟨n7, h⟩ := h
  refine r_sub [1, 0] rfl ?_
  refine L_2 _ ?_ n7 0 μ h
  intro v6 μ5 h
  exact r_vret (pc := 26) C d_C_rememberRoots_26 (by decide) (by decide) h
theorem c_C_beginTrace {l : Launch} (hl : l.stackTraces = false) {G : Gl} {post : Mem → Prop} {μ : Mem} (h : wC_beginTrace post μ) : Ct l G i_C_beginTrace [.inr (.inl (some 0))] μ (poV post) noX := by
  refine ct_of hl (by decide) (Nat.le_of_ble_eq_true rfl) ?_
  intro K hKl C hE
  clear hl hKl
  replace C : Cx K G prog_1_method_32_code "LineCollector" 5 { frames := 3, cells := 0, slots := 0, locals := 60 } (none) (poV post) noX := C
  show Rn K G 5 0 [(0, .inr (.inl (some 0)))] [] μ 0 0
  have L_15 : ∀ (l2 : Int32) (k : Int32 → Mem → Prop), (∀ (v3 : Int32) (μ : Mem), k v3 μ → Rn K G 5 41 [] [] μ 0 0) → ∀ (n : Nat) (l3 : Int32) (μ : Mem), wC_beginTrace_15 l2 k n l3 μ → Rn K G 5 15 [(1, .inr (.inl (some 1))), (2, .inl l2), (3, .inl l3)] [] μ 0 0 := by
    intro l2 k hk n
    induction n with
    | zero => intro l3 μ h; exact h.elim
    | succ n ih =>
      intro l3 μ h
      unfold wC_beginTrace_15 at h
      refine r_iload_n (pc := 15) C d_C_beginTrace_15 rfl 2 rfl ?_
      refine r_iload_n (pc := 16) C d_C_beginTrace_16 rfl 1 rfl ?_
      refine r_icmp_ge (tgt := 41) (pc := 17) C d_C_beginTrace_17 (by decide) ?_ ?_
      · intro hc; replace h := h.1 hc
        refine r_sub [] rfl ?_
        exact hk l3 μ h
      · intro hc; replace h := h.2 hc
        refine r_aload_n (pc := 20) C d_C_beginTrace_20 rfl 0 rfl ?_
        refine r_iload_n (pc := 21) C d_C_beginTrace_21 rfl 2 rfl ?_
        obtain ⟨b2, h⟩ := h
        refine r_aald (pc := 22) C (lay_A rfl) b2 d_C_beginTrace_22 ?_
        intro e3 he3; replace h := h e3 he3
        refine r_astore (pc := 23) (lv' := [(1, .inr (.inl (some 1))), (2, .inl l2), (3, .inl l3)]) C d_C_beginTrace_23 (by decide) rfl ?_
        refine r_aload (pc := 25) C d_C_beginTrace_25 0 rfl ?_
        refine r_ifnull (tgt := 35) (pc := 27) C d_C_beginTrace_27 (by decide) ?_ ?_
        · intro h0; subst h0; replace h := h.1 rfl
          refine r_iinc (pc := 35) (v := 1) (lv' := [(4, .inr (.inl none)), (1, .inr (.inl (some 1))), (2, .inl l2)]) C d_C_beginTrace_35 3 rfl (by decide) (by decide) rfl ?_
          refine r_goto (tgt := 15) (pc := 38) C d_C_beginTrace_38 (by decide) ?_
          refine r_sub [2, 3, 0] rfl ?_
          exact ih (l3 + 1) μ h
        · intro y4 h0; subst h0; replace h := h.2 y4 rfl
          refine r_aload (pc := 30) C d_C_beginTrace_30 0 rfl ?_
          obtain ⟨o5, h⟩ := h
          refine r_cVv (pc := 32) (a' := 0) (b' := 0) (As := []) (ci := 5) C (c_I_turnGreyIfWhite C.s h) o_I_turnGreyIfWhite rfl (ok_O o5) (k_169 C.w) rfl ⟨by decide, by decide, by decide, by decide⟩ rfl rfl (Nat.le_of_ble_eq_true rfl) d_C_beginTrace_32 rfl ?_
          intro μ6 h
          refine r_iinc (pc := 35) (v := 1) (lv' := [(4, .inr (.inl (some y4))), (1, .inr (.inl (some 1))), (2, .inl l2)]) C d_C_beginTrace_35 3 rfl (by decide) (by decide) rfl ?_
          refine r_goto (tgt := 15) (pc := 38) C d_C_beginTrace_38 (by decide) ?_
          refine r_sub [2, 3, 0] rfl ?_
          exact ih (l3 + 1) μ6 h
  unfold wC_beginTrace at h
  refine r_aload_n (pc := 0) C d_C_beginTrace_0 rfl 0 rfl ?_
  refine r_iconst (pc := 1) C d_C_beginTrace_1 (v := 1) (by decide) ?_
  refine r_putZ (pc := 2) (ci := 0) C rfl 7 (by decide) (k_113 C.w) rfl rfl p_Z (Or.inr rfl) (lay_O rfl) d_C_beginTrace_2 ?_
  intro μ1 eμ1; replace h := h μ1 eμ1
  refine r_aload_n (pc := 5) C d_C_beginTrace_5 rfl 0 rfl ?_
  refine r_getR (pc := 6) (ci := 0) C rfl 0 (by decide) (k_106 C.w) rfl (lay_O rfl) d_C_beginTrace_6 ?_
  refine r_astore_n (pc := 9) (lv' := [(0, .inr (.inl (some 0)))]) C d_C_beginTrace_9 rfl (by decide) rfl ?_
  refine r_aload_n (pc := 10) C d_C_beginTrace_10 rfl 0 rfl ?_
  refine r_alenQ (pc := 11) (v := 6) C (lay_A rfl) (by decide) d_C_beginTrace_11 ?_
  refine r_istore_n (pc := 12) (lv' := [(1, .inr (.inl (some 1))), (0, .inr (.inl (some 0)))]) C d_C_beginTrace_12 rfl (by decide) rfl ?_
  refine r_iconst (pc := 13) C d_C_beginTrace_13 (v := 0) (by decide) ?_
  refine r_istore_n (pc := 14) (lv' := [(2, .inl 6), (1, .inr (.inl (some 1))), (0, .inr (.inl (some 0)))]) C d_C_beginTrace_14 rfl (by decide) rfl ?_
  obtain ⟨n9, h⟩ := h
  refine r_sub [2, 1, 0] rfl ?_
  refine L_15 6 _ ?_ n9 0 μ1 h
  intro v8 μ7 h
  exact r_vret (pc := 41) C d_C_beginTrace_41 (by decide) (by decide) h
