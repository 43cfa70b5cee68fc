/-! The machine meets the predicates (written by a program) -/
theorem c_M_collect {l : Launch} (hl : l.stackTraces = false) {G : Gl} (hg : gf G = true) {post : Mem → Prop} {μ : Mem} (h : wM_collect post μ) : Ct l G i_M_collect [.inr (.inl (some 17))] μ (poV post) noX := by
  refine ct_of hl (by decide) (Nat.le_of_ble_eq_true rfl) ?_
  intro K hKl C Q hE
  clear hl hKl
  replace C : Cx K G prog_8_method_36_code "LineCollectorModel" 1 { frames := 9, cells := 0, slots := 0, locals := 200 } := C
  replace Q : Cq K G { frames := 9, cells := 0, slots := 0, locals := 200 } (none) (poV post) noX := Q
  show Rn K G 1 0 [(0, .inr (.inl (some 17)))] [] μ 0 0
  have L_6 : ∀ (k : Mem → Prop), (∀ (μ : Mem), k μ → Rn K G 1 20 [(0, .inr (.inl (some 17)))] [] μ 0 0) → ∀ (n : Nat) (μ : Mem), wM_collect_6 k n μ → Rn K G 1 6 [(0, .inr (.inl (some 17)))] [] μ 0 0 := by
    intro k hk n
    induction n with
    | zero => intro μ h; exact h.elim
    | succ n ih =>
      intro μ h
      unfold wM_collect_6 at h
      refine r_aload_n (pc := 6) C d_M_collect_6 rfl 0 rfl ?_
      refine r_cVi (pc := 7) (a' := 0) (b' := 0) (As := []) (ci := 6) C (c_M_greys C.s hg h) o_M_greys rfl (lay_O hg rfl) (k_851 C.w) rfl ⟨by decide, by decide, by decide, by decide⟩ rfl rfl (Nat.le_of_ble_eq_true rfl) d_M_collect_7 rfl ?_
      intro r4 μ3 h
      refine r_if_le (tgt := 20) (pc := 10) C d_M_collect_10 (by decide) ?_ ?_
      · intro hc; replace h := h.1 hc
        exact hk μ3 h
      · intro hc; replace h := h.2 hc
        refine r_aload_n (pc := 13) C d_M_collect_13 rfl 0 rfl ?_
        refine r_cVv (pc := 14) (a' := 0) (b' := 0) (As := []) (ci := 6) C (c_M_step C.s hg h) o_M_step rfl (lay_O hg rfl) (k_879 C.w) rfl ⟨by decide, by decide, by decide, by decide⟩ rfl rfl (Nat.le_of_ble_eq_true rfl) d_M_collect_14 rfl ?_
        intro μ5 h
        refine r_goto (tgt := 6) (pc := 17) C d_M_collect_17 (by decide) ?_
        exact ih μ5 h
  unfold wM_collect at h
  refine r_aload_n (pc := 0) C d_M_collect_0 rfl 0 rfl ?_
  refine r_iconst (pc := 1) C d_M_collect_1 (v := 1) (by decide) ?_
  refine r_cVi (pc := 2) (a' := 0) (b' := 0) (As := [.inl 1]) (ci := 6) C (c_M_halt C.s hg h) o_M_halt rfl (lay_O hg rfl) (k_787 C.w) rfl ⟨by decide, by decide, by decide, by decide⟩ rfl rfl (Nat.le_of_ble_eq_true rfl) d_M_collect_2 rfl ?_
  intro r2 μ1 h
  refine r_popI (pc := 5) C d_M_collect_5 ?_
  obtain ⟨n10, h⟩ := h
  refine L_6 _ ?_ n10 μ1 h
  intro μ6 h
  refine r_aload_n (pc := 20) C d_M_collect_20 rfl 0 rfl ?_
  refine r_iconst (pc := 21) C d_M_collect_21 (v := 0) (by decide) ?_
  refine r_cVi (pc := 22) (a' := 0) (b' := 0) (As := [.inl 0]) (ci := 6) C (c_M_halt C.s hg h) o_M_halt rfl (lay_O hg rfl) (k_787 C.w) rfl ⟨by decide, by decide, by decide, by decide⟩ rfl rfl (Nat.le_of_ble_eq_true rfl) d_M_collect_22 rfl ?_
  intro r8 μ7 h
  refine r_popI (pc := 25) C d_M_collect_25 ?_
  refine r_aload_n (pc := 26) C d_M_collect_26 rfl 0 rfl ?_
  refine r_cVv (pc := 27) (a' := 0) (b' := 0) (As := []) (ci := 6) C (c_M_drainAll C.s hg h) o_M_drainAll rfl (lay_O hg rfl) (k_791 C.w) rfl ⟨by decide, by decide, by decide, by decide⟩ rfl rfl (Nat.le_of_ble_eq_true rfl) d_M_collect_27 rfl ?_
  intro μ9 h
  exact r_vret (pc := 30) C Q d_M_collect_30 (by decide) (by decide) h
theorem c_M_isRoot {l : Launch} (hl : l.stackTraces = false) {G : Gl} (hg : gf G = true) {a1 : Int32} {post : Int32 → Mem → Prop} {μ : Mem} (h : wM_isRoot a1 post μ) : Ct l G i_M_isRoot [.inl a1] μ (poI post) noX := by
  refine ct_of hl (by decide) (Nat.le_of_ble_eq_true rfl) ?_
  intro K hKl C Q hE
  clear hl hKl
  replace C : Cx K G prog_8_method_37_code "LineCollectorModel" 1 { frames := 0, cells := 0, slots := 0, locals := 0 } := C
  replace Q : Cq K G { frames := 0, cells := 0, slots := 0, locals := 0 } (some .boolean) (poI post) noX := Q
  show Rn K G 1 0 [(0, .inl a1)] [] μ 0 0
  unfold wM_isRoot at h
  refine r_iload_n (pc := 0) C d_M_isRoot_0 rfl 0 rfl ?_
  refine r_if_lt (tgt := 14) (pc := 1) C d_M_isRoot_1 (by decide) ?_ ?_
  · intro hc; replace h := h.1 hc
    refine r_iconst (pc := 14) C d_M_isRoot_14 (v := 0) (by decide) ?_
    exact r_zret (pc := 15) C Q (Or.inl rfl) d_M_isRoot_15 (by decide) (by decide) h
  · intro hc; replace h := h.2 hc
    refine r_iload_n (pc := 4) C d_M_isRoot_4 rfl 0 rfl ?_
    refine r_bipush (pc := 5) C d_M_isRoot_5 (v := 6) (by decide) ?_
    refine r_icmp_ge (tgt := 14) (pc := 7) C d_M_isRoot_7 (by decide) ?_ ?_
    · intro hc; replace h := h.1 hc
      refine r_iconst (pc := 14) C d_M_isRoot_14 (v := 0) (by decide) ?_
      exact r_zret (pc := 15) C Q (Or.inl rfl) d_M_isRoot_15 (by decide) (by decide) h
    · intro hc; replace h := h.2 hc
      refine r_iconst (pc := 10) C d_M_isRoot_10 (v := 1) (by decide) ?_
      refine r_goto (tgt := 15) (pc := 11) C d_M_isRoot_11 (by decide) ?_
      exact r_zret (pc := 15) C Q (Or.inr rfl) d_M_isRoot_15 (by decide) (by decide) h
theorem c_M_allocate {l : Launch} (hl : l.stackTraces = false) {G : Gl} (hg : gf G = true) {a1 : Int32} {a2 : Int32} {a3 : Int32} {post : Int32 → Mem → Prop} {μ : Mem} (h : wM_allocate a1 a2 a3 post μ) : Ct l G i_M_allocate [.inr (.inl (some 17)), .inl a1, .inl a2, .inl a3] μ (poI post) noX := by
  refine ct_of hl (by decide) (Nat.le_of_ble_eq_true rfl) ?_
  intro K hKl C Q hE
  clear hl hKl
  replace C : Cx K G prog_8_method_38_code "LineCollectorModel" 6 { frames := 10, cells := 0, slots := 0, locals := 220 } := C
  replace Q : Cq K G { frames := 10, cells := 0, slots := 0, locals := 220 } (some .int) (poI post) noX := Q
  show Rn K G 6 0 [(0, .inr (.inl (some 17))), (1, .inl a1), (2, .inl a2), (3, .inl a3)] [] μ 0 0
  have J_59 : ∀ (l1 : Int32) (l2 : Int32) (l3 : Int32) (l4 : Int32) (μ : Mem), wM_allocate_59 l1 l2 l3 l4 post μ → Rn K G 6 59 [(0, .inr (.inl (some 17))), (1, .inl l1), (2, .inl l2), (3, .inl l3), (4, .inl l4)] [] μ 0 0 := by
    intro l1 l2 l3 l4 μ h
    unfold wM_allocate_59 at h
    refine r_iload (pc := 59) C d_M_allocate_59 4 rfl ?_
    refine r_if_ge (tgt := 71) (pc := 61) C d_M_allocate_61 (by decide) ?_ ?_
    · intro hc; replace h := h.1 hc
      refine r_aload_n (pc := 71) C d_M_allocate_71 rfl 0 rfl ?_
      refine r_iload_n (pc := 72) C d_M_allocate_72 rfl 2 rfl ?_
      refine r_iload_n (pc := 73) C d_M_allocate_73 rfl 3 rfl ?_
      refine r_cVi (pc := 74) (a' := 0) (b' := 0) (As := [.inl l2, .inl l3]) (ci := 6) C (c_M_make C.s hg h) o_M_make rfl (lay_O hg rfl) (k_883 C.w) rfl ⟨by decide, by decide, by decide, by decide⟩ rfl rfl (Nat.le_of_ble_eq_true rfl) d_M_allocate_74 rfl ?_
      intro r7 μ6 h
      refine r_istore (pc := 77) (lv' := [(0, .inr (.inl (some 17))), (1, .inl l1), (2, .inl l2), (3, .inl l3), (4, .inl l4)]) C d_M_allocate_77 (by decide) rfl ?_
      refine r_aload_n (pc := 79) C d_M_allocate_79 rfl 1 rfl ?_
      refine r_iload (pc := 80) C d_M_allocate_80 0 rfl ?_
      refine r_iload (pc := 82) C d_M_allocate_82 5 rfl ?_
      refine r_cVv (pc := 84) (a' := 0) (b' := 0) (As := [.inl r7, .inl l4]) (ci := 6) C (c_M_lay C.s hg h) o_M_lay rfl (lay_O hg rfl) (k_839 C.w) rfl ⟨by decide, by decide, by decide, by decide⟩ rfl rfl (Nat.le_of_ble_eq_true rfl) d_M_allocate_84 rfl ?_
      intro μ8 h
      refine r_aload_n (pc := 87) C d_M_allocate_87 rfl 1 rfl ?_
      refine r_getR (pc := 88) (ci := 6) C rfl 11 (by decide) (k_661 C.w) rfl (lay_O hg rfl) d_M_allocate_88 ?_
      refine r_iload_n (pc := 91) C d_M_allocate_91 rfl 2 rfl ?_
      refine r_iload (pc := 92) C d_M_allocate_92 0 rfl ?_
      obtain ⟨b9, h⟩ := h
      refine r_iast (pc := 94) C (lay_A hg rfl) b9 d_M_allocate_94 ?_
      intro μ10 eμ10; replace h := h μ10 eμ10
      refine r_iload (pc := 95) C d_M_allocate_95 5 rfl ?_
      exact r_iret (pc := 97) C Q d_M_allocate_97 (by decide) (by decide) h
    · intro hc; replace h := h.2 hc
      refine r_aload_n (pc := 64) C d_M_allocate_64 rfl 0 rfl ?_
      refine r_iconst (pc := 65) C d_M_allocate_65 (v := 2) (by decide) ?_
      refine r_putI (pc := 66) (ci := 6) C rfl 0 (by decide) (k_650 C.w) rfl rfl p_I (lay_O hg rfl) d_M_allocate_66 ?_
      intro μ11 eμ11; replace h := h μ11 eμ11
      refine r_iconst (pc := 69) C d_M_allocate_69 (v := 0) (by decide) ?_
      exact r_iret (pc := 70) C Q d_M_allocate_70 (by decide) (by decide) h
  have J_24 : ∀ (l1 : Int32) (l2 : Int32) (l3 : Int32) (t1 : Int32) (μ : Mem), wM_allocate_24 l1 l2 l3 t1 post μ → Rn K G 6 24 [(0, .inr (.inl (some 17))), (1, .inl l1), (2, .inl l2), (3, .inl l3)] [.int t1, rv G (some 17)] μ 0 0 := by
    intro l1 l2 l3 t1 μ h
    unfold wM_allocate_24 at h
    refine r_putI (pc := 24) (ci := 6) C rfl 0 (by decide) (k_650 C.w) rfl rfl p_I (lay_O hg rfl) d_M_allocate_24 ?_
    intro μ3 eμ3; replace h := h μ3 eμ3
    refine r_aload_n (pc := 27) C d_M_allocate_27 rfl 0 rfl ?_
    refine r_getI (pc := 28) (ci := 6) C rfl 0 (by decide) (k_650 C.w) rfl (lay_O hg rfl) d_M_allocate_28 ?_
    refine r_if_le (tgt := 36) (pc := 31) C d_M_allocate_31 (by decide) ?_ ?_
    · intro hc; replace h := h.1 hc
      refine r_aload_n (pc := 36) C d_M_allocate_36 rfl 0 rfl ?_
      refine r_iload_n (pc := 37) C d_M_allocate_37 rfl 2 rfl ?_
      refine r_cVi (pc := 38) (a' := 0) (b' := 0) (As := [.inl l2]) (ci := 6) C (c_M_place C.s hg h) o_M_place rfl (lay_O hg rfl) (k_755 C.w) rfl ⟨by decide, by decide, by decide, by decide⟩ rfl rfl (Nat.le_of_ble_eq_true rfl) d_M_allocate_38 rfl ?_
      intro r5 μ4 h
      refine r_istore (pc := 41) (lv' := [(0, .inr (.inl (some 17))), (1, .inl l1), (2, .inl l2), (3, .inl l3)]) C d_M_allocate_41 (by decide) rfl ?_
      refine r_iload (pc := 43) C d_M_allocate_43 0 rfl ?_
      refine r_if_ge (tgt := 59) (pc := 45) C d_M_allocate_45 (by decide) ?_ ?_
      · intro hc; replace h := h.1 hc
        refine r_sub [1, 2, 3, 4, 0] rfl ?_
        exact J_59 l1 l2 l3 r5 μ4 h
      · intro hc; replace h := h.2 hc
        refine r_aload_n (pc := 48) C d_M_allocate_48 rfl 1 rfl ?_
        refine r_cVv (pc := 49) (a' := 0) (b' := 0) (As := []) (ci := 6) C (c_M_collect C.s hg h) o_M_collect rfl (lay_O hg rfl) (k_783 C.w) rfl ⟨by decide, by decide, by decide, by decide⟩ rfl rfl (Nat.le_of_ble_eq_true rfl) d_M_allocate_49 rfl ?_
        intro μ12 h
        refine r_aload_n (pc := 52) C d_M_allocate_52 rfl 1 rfl ?_
        refine r_iload_n (pc := 53) C d_M_allocate_53 rfl 3 rfl ?_
        refine r_cVi (pc := 54) (a' := 0) (b' := 0) (As := [.inl l2]) (ci := 6) C (c_M_place C.s hg h) o_M_place rfl (lay_O hg rfl) (k_755 C.w) rfl ⟨by decide, by decide, by decide, by decide⟩ rfl rfl (Nat.le_of_ble_eq_true rfl) d_M_allocate_54 rfl ?_
        intro r14 μ13 h
        refine r_istore (pc := 57) (lv' := [(0, .inr (.inl (some 17))), (1, .inl l1), (2, .inl l2), (3, .inl l3)]) C d_M_allocate_57 (by decide) rfl ?_
        refine r_sub [1, 2, 3, 4, 0] rfl ?_
        exact J_59 l1 l2 l3 r14 μ13 h
    · intro hc; replace h := h.2 hc
      refine r_iconst (pc := 34) C d_M_allocate_34 (v := 0) (by decide) ?_
      exact r_iret (pc := 35) C Q d_M_allocate_35 (by decide) (by decide) h
  have J_23 : ∀ (l1 : Int32) (l2 : Int32) (l3 : Int32) (μ : Mem), wM_allocate_23 l1 l2 l3 post μ → Rn K G 6 23 [(0, .inr (.inl (some 17))), (1, .inl l1), (2, .inl l2), (3, .inl l3)] [rv G (some 17)] μ 0 0 := by
    intro l1 l2 l3 μ h
    unfold wM_allocate_23 at h
    refine r_iconst (pc := 23) C d_M_allocate_23 (v := 1) (by decide) ?_
    exact J_24 l1 l2 l3 1 μ h
  unfold wM_allocate at h
  refine r_aload_n (pc := 0) C d_M_allocate_0 rfl 0 rfl ?_
  refine r_iload_n (pc := 1) C d_M_allocate_1 rfl 1 rfl ?_
  refine r_cSi (pc := 2) (a' := 0) (b' := 0) (As := [.inl a1]) C (c_M_isRoot C.s hg h) o_M_isRoot (k_752 C.w) rfl ⟨by decide, by decide, by decide, by decide⟩ rfl rfl (Nat.le_of_ble_eq_true rfl) d_M_allocate_2 rfl ?_
  intro r2 μ1 h
  refine r_if_eq (tgt := 23) (pc := 5) C d_M_allocate_5 (by decide) ?_ ?_
  · intro hc; replace h := h.1 hc
    exact J_23 a1 a2 a3 μ1 h
  · intro hc; replace h := h.2 hc
    refine r_iload_n (pc := 8) C d_M_allocate_8 rfl 2 rfl ?_
    refine r_iconst (pc := 9) C d_M_allocate_9 (v := 1) (by decide) ?_
    refine r_icmp_lt (tgt := 23) (pc := 10) C d_M_allocate_10 (by decide) ?_ ?_
    · intro hc; replace h := h.1 hc
      exact J_23 a1 a2 a3 μ1 h
    · intro hc; replace h := h.2 hc
      refine r_iload_n (pc := 13) C d_M_allocate_13 rfl 2 rfl ?_
      refine r_bipush (pc := 14) C d_M_allocate_14 (v := 12) (by decide) ?_
      refine r_icmp_gt (tgt := 23) (pc := 16) C d_M_allocate_16 (by decide) ?_ ?_
      · intro hc; replace h := h.1 hc
        exact J_23 a1 a2 a3 μ1 h
      · intro hc; replace h := h.2 hc
        refine r_iconst (pc := 19) C d_M_allocate_19 (v := 0) (by decide) ?_
        refine r_goto (tgt := 24) (pc := 20) C d_M_allocate_20 (by decide) ?_
        exact J_24 a1 a2 a3 0 μ1 h
theorem c_M_drop {l : Launch} (hl : l.stackTraces = false) {G : Gl} (hg : gf G = true) {a1 : Int32} {post : Mem → Prop} {μ : Mem} (h : wM_drop a1 post μ) : Ct l G i_M_drop [.inr (.inl (some 17)), .inl a1] μ (poV post) noX := by
  refine ct_of hl (by decide) (Nat.le_of_ble_eq_true rfl) ?_
  intro K hKl C Q hE
  clear hl hKl
  replace C : Cx K G prog_8_method_39_code "LineCollectorModel" 2 { frames := 1, cells := 0, slots := 0, locals := 20 } := C
  replace Q : Cq K G { frames := 1, cells := 0, slots := 0, locals := 20 } (none) (poV post) noX := Q
  show Rn K G 2 0 [(0, .inr (.inl (some 17))), (1, .inl a1)] [] μ 0 0
  have J_13 : ∀ (l1 : Int32) (t1 : Int32) (μ : Mem), wM_drop_13 l1 t1 post μ → Rn K G 2 13 [(0, .inr (.inl (some 17))), (1, .inl l1)] [.int t1, rv G (some 17)] μ 0 0 := by
    intro l1 t1 μ h
    unfold wM_drop_13 at h
    refine r_putI (pc := 13) (ci := 6) C rfl 0 (by decide) (k_650 C.w) rfl rfl p_I (lay_O hg rfl) d_M_drop_13 ?_
    intro μ3 eμ3; replace h := h μ3 eμ3
    refine r_aload_n (pc := 16) C d_M_drop_16 rfl 0 rfl ?_
    refine r_getI (pc := 17) (ci := 6) C rfl 0 (by decide) (k_650 C.w) rfl (lay_O hg rfl) d_M_drop_17 ?_
    refine r_if_ne (tgt := 30) (pc := 20) C d_M_drop_20 (by decide) ?_ ?_
    · intro hc; replace h := h.2 hc
      exact r_vret (pc := 30) C Q d_M_drop_30 (by decide) (by decide) h
    · intro hc; replace h := h.1 hc
      refine r_aload_n (pc := 23) C d_M_drop_23 rfl 0 rfl ?_
      refine r_getR (pc := 24) (ci := 6) C rfl 11 (by decide) (k_661 C.w) rfl (lay_O hg rfl) d_M_drop_24 ?_
      refine r_iload_n (pc := 27) C d_M_drop_27 rfl 1 rfl ?_
      refine r_iconst (pc := 28) C d_M_drop_28 (v := (-1)) (by decide) ?_
      obtain ⟨b4, h⟩ := h
      refine r_iast (pc := 29) C (lay_A hg rfl) b4 d_M_drop_29 ?_
      intro μ5 eμ5; replace h := h μ5 eμ5
      exact r_vret (pc := 30) C Q d_M_drop_30 (by decide) (by decide) h
  unfold wM_drop at h
  refine r_aload_n (pc := 0) C d_M_drop_0 rfl 0 rfl ?_
  refine r_iload_n (pc := 1) C d_M_drop_1 rfl 1 rfl ?_
  refine r_cSi (pc := 2) (a' := 0) (b' := 0) (As := [.inl a1]) C (c_M_isRoot C.s hg h) o_M_isRoot (k_752 C.w) rfl ⟨by decide, by decide, by decide, by decide⟩ rfl rfl (Nat.le_of_ble_eq_true rfl) d_M_drop_2 rfl ?_
  intro r2 μ1 h
  refine r_if_eq (tgt := 12) (pc := 5) C d_M_drop_5 (by decide) ?_ ?_
  · intro hc; replace h := h.1 hc
    refine r_iconst (pc := 12) C d_M_drop_12 (v := 1) (by decide) ?_
    exact J_13 a1 1 μ1 h
  · intro hc; replace h := h.2 hc
    refine r_iconst (pc := 8) C d_M_drop_8 (v := 0) (by decide) ?_
    refine r_goto (tgt := 13) (pc := 9) C d_M_drop_9 (by decide) ?_
    exact J_13 a1 0 μ1 h
theorem c_M_copy {l : Launch} (hl : l.stackTraces = false) {G : Gl} (hg : gf G = true) {a1 : Int32} {a2 : Int32} {post : Mem → Prop} {μ : Mem} (h : wM_copy a1 a2 post μ) : Ct l G i_M_copy [.inr (.inl (some 17)), .inl a1, .inl a2] μ (poV post) noX := by
  refine ct_of hl (by decide) (Nat.le_of_ble_eq_true rfl) ?_
  intro K hKl C Q hE
  clear hl hKl
  replace C : Cx K G prog_8_method_40_code "LineCollectorModel" 3 { frames := 1, cells := 0, slots := 0, locals := 20 } := C
  replace Q : Cq K G { frames := 1, cells := 0, slots := 0, locals := 20 } (none) (poV post) noX := Q
  show Rn K G 3 0 [(0, .inr (.inl (some 17))), (1, .inl a1), (2, .inl a2)] [] μ 0 0
  have J_20 : ∀ (l1 : Int32) (l2 : Int32) (t1 : Int32) (μ : Mem), wM_copy_20 l1 l2 t1 post μ → Rn K G 3 20 [(0, .inr (.inl (some 17))), (1, .inl l1), (2, .inl l2)] [.int t1, rv G (some 17)] μ 0 0 := by
    intro l1 l2 t1 μ h
    unfold wM_copy_20 at h
    refine r_putI (pc := 20) (ci := 6) C rfl 0 (by decide) (k_650 C.w) rfl rfl p_I (lay_O hg rfl) d_M_copy_20 ?_
    intro μ3 eμ3; replace h := h μ3 eμ3
    refine r_aload_n (pc := 23) C d_M_copy_23 rfl 0 rfl ?_
    refine r_getI (pc := 24) (ci := 6) C rfl 0 (by decide) (k_650 C.w) rfl (lay_O hg rfl) d_M_copy_24 ?_
    refine r_if_ne (tgt := 42) (pc := 27) C d_M_copy_27 (by decide) ?_ ?_
    · intro hc; replace h := h.2 hc
      exact r_vret (pc := 42) C Q d_M_copy_42 (by decide) (by decide) h
    · intro hc; replace h := h.1 hc
      refine r_aload_n (pc := 30) C d_M_copy_30 rfl 0 rfl ?_
      refine r_getR (pc := 31) (ci := 6) C rfl 11 (by decide) (k_661 C.w) rfl (lay_O hg rfl) d_M_copy_31 ?_
      refine r_iload_n (pc := 34) C d_M_copy_34 rfl 1 rfl ?_
      refine r_aload_n (pc := 35) C d_M_copy_35 rfl 0 rfl ?_
      refine r_getR (pc := 36) (ci := 6) C rfl 11 (by decide) (k_661 C.w) rfl (lay_O hg rfl) d_M_copy_36 ?_
      refine r_iload_n (pc := 39) C d_M_copy_39 rfl 2 rfl ?_
      obtain ⟨b4, h⟩ := h
      refine r_iald (pc := 40) C (lay_A hg rfl) b4 d_M_copy_40 ?_
      obtain ⟨b5, h⟩ := h
      refine r_iast (pc := 41) C (lay_A hg rfl) b5 d_M_copy_41 ?_
      intro μ6 eμ6; replace h := h μ6 eμ6
      exact r_vret (pc := 42) C Q d_M_copy_42 (by decide) (by decide) h
  have J_19 : ∀ (l1 : Int32) (l2 : Int32) (μ : Mem), wM_copy_19 l1 l2 post μ → Rn K G 3 19 [(0, .inr (.inl (some 17))), (1, .inl l1), (2, .inl l2)] [rv G (some 17)] μ 0 0 := by
    intro l1 l2 μ h
    unfold wM_copy_19 at h
    refine r_iconst (pc := 19) C d_M_copy_19 (v := 1) (by decide) ?_
    exact J_20 l1 l2 1 μ h
  unfold wM_copy at h
  refine r_aload_n (pc := 0) C d_M_copy_0 rfl 0 rfl ?_
  refine r_iload_n (pc := 1) C d_M_copy_1 rfl 1 rfl ?_
  refine r_cSi (pc := 2) (a' := 0) (b' := 0) (As := [.inl a1]) C (c_M_isRoot C.s hg h) o_M_isRoot (k_752 C.w) rfl ⟨by decide, by decide, by decide, by decide⟩ rfl rfl (Nat.le_of_ble_eq_true rfl) d_M_copy_2 rfl ?_
  intro r2 μ1 h
  refine r_if_eq (tgt := 19) (pc := 5) C d_M_copy_5 (by decide) ?_ ?_
  · intro hc; replace h := h.1 hc
    exact J_19 a1 a2 μ1 h
  · intro hc; replace h := h.2 hc
    refine r_iload_n (pc := 8) C d_M_copy_8 rfl 2 rfl ?_
    refine r_cSi (pc := 9) (a' := 0) (b' := 0) (As := [.inl a2]) C (c_M_isRoot C.s hg h) o_M_isRoot (k_752 C.w) rfl ⟨by decide, by decide, by decide, by decide⟩ rfl rfl (Nat.le_of_ble_eq_true rfl) d_M_copy_9 rfl ?_
    intro r8 μ7 h
    refine r_if_eq (tgt := 19) (pc := 12) C d_M_copy_12 (by decide) ?_ ?_
    · intro hc; replace h := h.1 hc
      exact J_19 a1 a2 μ7 h
    · intro hc; replace h := h.2 hc
      refine r_iconst (pc := 15) C d_M_copy_15 (v := 0) (by decide) ?_
      refine r_goto (tgt := 20) (pc := 16) C d_M_copy_16 (by decide) ?_
      exact J_20 a1 a2 0 μ7 h
theorem c_M_reach {l : Launch} (hl : l.stackTraces = false) {G : Gl} (hg : gf G = true) {a1 : Int32} {a2 : Int32} {a3 : Int32} {post : Mem → Prop} {μ : Mem} (h : wM_reach a1 a2 a3 post μ) : Ct l G i_M_reach [.inr (.inl (some 17)), .inl a1, .inl a2, .inl a3] μ (poV post) noX := by
  refine ct_of hl (by decide) (Nat.le_of_ble_eq_true rfl) ?_
  intro K hKl C Q hE
  clear hl hKl
  replace C : Cx K G prog_8_method_41_code "LineCollectorModel" 4 { frames := 1, cells := 0, slots := 0, locals := 20 } := C
  replace Q : Cq K G { frames := 1, cells := 0, slots := 0, locals := 20 } (none) (poV post) noX := Q
  show Rn K G 4 0 [(0, .inr (.inl (some 17))), (1, .inl a1), (2, .inl a2), (3, .inl a3)] [] μ 0 0
  have J_33 : ∀ (l1 : Int32) (l3 : Int32) (t1 : Int32) (μ : Mem), wM_reach_33 l1 l3 t1 post μ → Rn K G 4 33 [(0, .inr (.inl (some 17))), (1, .inl l1), (3, .inl l3)] [.int t1, rv G (some 17)] μ 0 0 := by
    intro l1 l3 t1 μ h
    unfold wM_reach_33 at h
    refine r_putI (pc := 33) (ci := 6) C rfl 0 (by decide) (k_650 C.w) rfl rfl p_I (lay_O hg rfl) d_M_reach_33 ?_
    intro μ3 eμ3; replace h := h μ3 eμ3
    refine r_aload_n (pc := 36) C d_M_reach_36 rfl 0 rfl ?_
    refine r_getI (pc := 37) (ci := 6) C rfl 0 (by decide) (k_650 C.w) rfl (lay_O hg rfl) d_M_reach_37 ?_
    refine r_if_ne (tgt := 71) (pc := 40) C d_M_reach_40 (by decide) ?_ ?_
    · intro hc; replace h := h.2 hc
      exact r_vret (pc := 71) C Q d_M_reach_71 (by decide) (by decide) h
    · intro hc; replace h := h.1 hc
      refine r_aload_n (pc := 43) C d_M_reach_43 rfl 0 rfl ?_
      refine r_iload_n (pc := 44) C d_M_reach_44 rfl 2 rfl ?_
      refine r_if_lt (tgt := 67) (pc := 45) C d_M_reach_45 (by decide) ?_ ?_
      · intro hc; replace h := h.1 hc
        refine r_iconst (pc := 67) C d_M_reach_67 (v := 3) (by decide) ?_
        refine r_putI (pc := 68) (ci := 6) C rfl 0 (by decide) (k_650 C.w) rfl rfl p_I (lay_O hg rfl) d_M_reach_68 ?_
        intro μ4 eμ4; replace h := h μ4 eμ4
        exact r_vret (pc := 71) C Q d_M_reach_71 (by decide) (by decide) h
      · intro hc; replace h := h.2 hc
        refine r_iload_n (pc := 48) C d_M_reach_48 rfl 2 rfl ?_
        refine r_aload_n (pc := 49) C d_M_reach_49 rfl 0 rfl ?_
        refine r_getR (pc := 50) (ci := 6) C rfl 4 (by decide) (k_654 C.w) rfl (lay_O hg rfl) d_M_reach_50 ?_
        refine r_aload_n (pc := 53) C d_M_reach_53 rfl 0 rfl ?_
        refine r_getR (pc := 54) (ci := 6) C rfl 11 (by decide) (k_661 C.w) rfl (lay_O hg rfl) d_M_reach_54 ?_
        refine r_iload_n (pc := 57) C d_M_reach_57 rfl 1 rfl ?_
        obtain ⟨b5, h⟩ := h
        refine r_iald (pc := 58) C (lay_A hg rfl) b5 d_M_reach_58 ?_
        obtain ⟨b6, h⟩ := h
        refine r_iald (pc := 59) C (lay_A hg rfl) b6 d_M_reach_59 ?_
        refine r_icmp_ge (tgt := 67) (pc := 60) C d_M_reach_60 (by decide) ?_ ?_
        · intro hc; replace h := h.1 hc
          refine r_iconst (pc := 67) C d_M_reach_67 (v := 3) (by decide) ?_
          refine r_putI (pc := 68) (ci := 6) C rfl 0 (by decide) (k_650 C.w) rfl rfl p_I (lay_O hg rfl) d_M_reach_68 ?_
          intro μ7 eμ7; replace h := h μ7 eμ7
          exact r_vret (pc := 71) C Q d_M_reach_71 (by decide) (by decide) h
        · intro hc; replace h := h.2 hc
          refine r_iconst (pc := 63) C d_M_reach_63 (v := 0) (by decide) ?_
          refine r_goto (tgt := 68) (pc := 64) C d_M_reach_64 (by decide) ?_
          refine r_putI (pc := 68) (ci := 6) C rfl 0 (by decide) (k_650 C.w) rfl rfl p_I (lay_O hg rfl) d_M_reach_68 ?_
          intro μ8 eμ8; replace h := h μ8 eμ8
          exact r_vret (pc := 71) C Q d_M_reach_71 (by decide) (by decide) h
  have J_15 : ∀ (l1 : Int32) (l3 : Int32) (μ : Mem), wM_reach_15 l1 l3 post μ → Rn K G 4 15 [(0, .inr (.inl (some 17))), (1, .inl l1), (3, .inl l3)] [rv G (some 17)] μ 0 0 := by
    intro l1 l3 μ h
    unfold wM_reach_15 at h
    refine r_iconst (pc := 15) C d_M_reach_15 (v := 1) (by decide) ?_
    refine r_goto (tgt := 33) (pc := 16) C d_M_reach_16 (by decide) ?_
    exact J_33 l1 l3 1 μ h
  unfold wM_reach at h
  refine r_aload_n (pc := 0) C d_M_reach_0 rfl 0 rfl ?_
  refine r_iload_n (pc := 1) C d_M_reach_1 rfl 1 rfl ?_
  refine r_cSi (pc := 2) (a' := 0) (b' := 0) (As := [.inl a1]) C (c_M_isRoot C.s hg h) o_M_isRoot (k_752 C.w) rfl ⟨by decide, by decide, by decide, by decide⟩ rfl rfl (Nat.le_of_ble_eq_true rfl) d_M_reach_2 rfl ?_
  intro r2 μ1 h
  refine r_if_eq (tgt := 15) (pc := 5) C d_M_reach_5 (by decide) ?_ ?_
  · intro hc; replace h := h.1 hc
    refine r_sub [0, 1, 3] rfl ?_
    exact J_15 a1 a3 μ1 h
  · intro hc; replace h := h.2 hc
    refine r_iload_n (pc := 8) C d_M_reach_8 rfl 2 rfl ?_
    refine r_cSi (pc := 9) (a' := 0) (b' := 0) (As := [.inl a2]) C (c_M_isRoot C.s hg h) o_M_isRoot (k_752 C.w) rfl ⟨by decide, by decide, by decide, by decide⟩ rfl rfl (Nat.le_of_ble_eq_true rfl) d_M_reach_9 rfl ?_
    intro r10 μ9 h
    refine r_if_ne (tgt := 19) (pc := 12) C d_M_reach_12 (by decide) ?_ ?_
    · intro hc; replace h := h.2 hc
      refine r_aload_n (pc := 19) C d_M_reach_19 rfl 0 rfl ?_
      refine r_getR (pc := 20) (ci := 6) C rfl 11 (by decide) (k_661 C.w) rfl (lay_O hg rfl) d_M_reach_20 ?_
      refine r_iload_n (pc := 23) C d_M_reach_23 rfl 1 rfl ?_
      obtain ⟨b11, h⟩ := h
      refine r_iald (pc := 24) C (lay_A hg rfl) b11 d_M_reach_24 ?_
      refine r_if_ge (tgt := 32) (pc := 25) C d_M_reach_25 (by decide) ?_ ?_
      · intro hc; replace h := h.1 hc
        refine r_iconst (pc := 32) C d_M_reach_32 (v := 0) (by decide) ?_
        refine r_sub [0, 1, 3] rfl ?_
        exact J_33 a1 a3 0 μ9 h
      · intro hc; replace h := h.2 hc
        refine r_iconst (pc := 28) C d_M_reach_28 (v := 2) (by decide) ?_
        refine r_goto (tgt := 33) (pc := 29) C d_M_reach_29 (by decide) ?_
        refine r_sub [0, 1, 3] rfl ?_
        exact J_33 a1 a3 2 μ9 h
    · intro hc; replace h := h.1 hc
      refine r_sub [0, 1, 3] rfl ?_
      exact J_15 a1 a3 μ9 h
theorem c_M_load {l : Launch} (hl : l.stackTraces = false) {G : Gl} (hg : gf G = true) {a1 : Int32} {a2 : Int32} {a3 : Int32} {post : Int32 → Mem → Prop} {μ : Mem} (h : wM_load a1 a2 a3 post μ) : Ct l G i_M_load [.inr (.inl (some 17)), .inl a1, .inl a2, .inl a3] μ (poI post) noX := by
  refine ct_of hl (by decide) (Nat.le_of_ble_eq_true rfl) ?_
  intro K hKl C Q hE
  clear hl hKl
  replace C : Cx K G prog_8_method_42_code "LineCollectorModel" 4 { frames := 2, cells := 0, slots := 0, locals := 43 } := C
  replace Q : Cq K G { frames := 2, cells := 0, slots := 0, locals := 43 } (some .int) (poI post) noX := Q
  show Rn K G 4 0 [(0, .inr (.inl (some 17))), (1, .inl a1), (2, .inl a2), (3, .inl a3)] [] μ 0 0
  unfold wM_load at h
  refine r_aload_n (pc := 0) C d_M_load_0 rfl 0 rfl ?_
  refine r_iload_n (pc := 1) C d_M_load_1 rfl 2 rfl ?_
  refine r_iload_n (pc := 2) C d_M_load_2 rfl 1 rfl ?_
  refine r_iload_n (pc := 3) C d_M_load_3 rfl 3 rfl ?_
  refine r_cVv (pc := 4) (a' := 0) (b' := 0) (As := [.inl a2, .inl a1, .inl a3]) (ci := 6) C (c_M_reach C.s hg h) o_M_reach rfl (lay_O hg rfl) (k_899 C.w) rfl ⟨by decide, by decide, by decide, by decide⟩ rfl rfl (Nat.le_of_ble_eq_true rfl) d_M_load_4 rfl ?_
  intro μ1 h
  refine r_aload_n (pc := 7) C d_M_load_7 rfl 0 rfl ?_
  refine r_getI (pc := 8) (ci := 6) C rfl 0 (by decide) (k_650 C.w) rfl (lay_O hg rfl) d_M_load_8 ?_
  refine r_if_le (tgt := 16) (pc := 11) C d_M_load_11 (by decide) ?_ ?_
  · intro hc; replace h := h.1 hc
    refine r_aload_n (pc := 16) C d_M_load_16 rfl 0 rfl ?_
    refine r_getR (pc := 17) (ci := 6) C rfl 11 (by decide) (k_661 C.w) rfl (lay_O hg rfl) d_M_load_17 ?_
    refine r_iload_n (pc := 20) C d_M_load_20 rfl 1 rfl ?_
    refine r_aload_n (pc := 21) C d_M_load_21 rfl 0 rfl ?_
    refine r_getR (pc := 22) (ci := 6) C rfl 8 (by decide) (k_658 C.w) rfl (lay_O hg rfl) d_M_load_22 ?_
    refine r_bipush (pc := 25) C d_M_load_25 (v := 12) (by decide) ?_
    refine r_aload_n (pc := 27) C d_M_load_27 rfl 0 rfl ?_
    refine r_getR (pc := 28) (ci := 6) C rfl 11 (by decide) (k_661 C.w) rfl (lay_O hg rfl) d_M_load_28 ?_
    refine r_iload_n (pc := 31) C d_M_load_31 rfl 2 rfl ?_
    obtain ⟨b2, h⟩ := h
    refine r_iald (pc := 32) C (lay_A hg rfl) b2 d_M_load_32 ?_
    refine r_imul (pc := 33) C d_M_load_33 ?_
    refine r_iload_n (pc := 34) C d_M_load_34 rfl 3 rfl ?_
    refine r_iadd (pc := 35) C d_M_load_35 ?_
    obtain ⟨b3, h⟩ := h
    refine r_iald (pc := 36) C (lay_A hg rfl) b3 d_M_load_36 ?_
    obtain ⟨b4, h⟩ := h
    refine r_iast (pc := 37) C (lay_A hg rfl) b4 d_M_load_37 ?_
    intro μ5 eμ5; replace h := h μ5 eμ5
    refine r_aload_n (pc := 38) C d_M_load_38 rfl 0 rfl ?_
    refine r_aload_n (pc := 39) C d_M_load_39 rfl 0 rfl ?_
    refine r_getR (pc := 40) (ci := 6) C rfl 11 (by decide) (k_661 C.w) rfl (lay_O hg rfl) d_M_load_40 ?_
    refine r_iload_n (pc := 43) C d_M_load_43 rfl 1 rfl ?_
    refine r_iald (pc := 44) C (lay_A hg rfl) b4 d_M_load_44 ?_
    refine r_cVi (pc := 45) (a' := 0) (b' := 0) (As := [.inl (mI μ5 27 (a1).toNatClampNeg)]) (ci := 6) C (c_M_addressOf C.s hg h) o_M_addressOf rfl (lay_O hg rfl) (k_903 C.w) rfl ⟨by decide, by decide, by decide, by decide⟩ rfl rfl (Nat.le_of_ble_eq_true rfl) d_M_load_45 rfl ?_
    intro r7 μ6 h
    exact r_iret (pc := 48) C Q d_M_load_48 (by decide) (by decide) h
  · intro hc; replace h := h.2 hc
    refine r_iconst (pc := 14) C d_M_load_14 (v := 0) (by decide) ?_
    exact r_iret (pc := 15) C Q d_M_load_15 (by decide) (by decide) h
theorem c_M_store {l : Launch} (hl : l.stackTraces = false) {G : Gl} (hg : gf G = true) {a1 : Int32} {a2 : Int32} {a3 : Int32} {post : Mem → Prop} {μ : Mem} (h : wM_store a1 a2 a3 post μ) : Ct l G i_M_store [.inr (.inl (some 17)), .inl a1, .inl a2, .inl a3] μ (poV post) noX := by
  refine ct_of hl (by decide) (Nat.le_of_ble_eq_true rfl) ?_
  intro K hKl C Q hE
  clear hl hKl
  replace C : Cx K G prog_8_method_43_code "LineCollectorModel" 6 { frames := 2, cells := 0, slots := 0, locals := 43 } := C
  replace Q : Cq K G { frames := 2, cells := 0, slots := 0, locals := 43 } (none) (poV post) noX := Q
  show Rn K G 6 0 [(0, .inr (.inl (some 17))), (1, .inl a1), (2, .inl a2), (3, .inl a3)] [] μ 0 0
  unfold wM_store at h
  refine r_aload_n (pc := 0) C d_M_store_0 rfl 0 rfl ?_
  refine r_iload_n (pc := 1) C d_M_store_1 rfl 1 rfl ?_
  refine r_iload_n (pc := 2) C d_M_store_2 rfl 3 rfl ?_
  refine r_iload_n (pc := 3) C d_M_store_3 rfl 2 rfl ?_
  refine r_cVv (pc := 4) (a' := 0) (b' := 0) (As := [.inl a1, .inl a3, .inl a2]) (ci := 6) C (c_M_reach C.s hg h) o_M_reach rfl (lay_O hg rfl) (k_899 C.w) rfl ⟨by decide, by decide, by decide, by decide⟩ rfl rfl (Nat.le_of_ble_eq_true rfl) d_M_store_4 rfl ?_
  intro μ1 h
  refine r_aload_n (pc := 7) C d_M_store_7 rfl 0 rfl ?_
  refine r_getI (pc := 8) (ci := 6) C rfl 0 (by decide) (k_650 C.w) rfl (lay_O hg rfl) d_M_store_8 ?_
  refine r_if_le (tgt := 15) (pc := 11) C d_M_store_11 (by decide) ?_ ?_
  · intro hc; replace h := h.1 hc
    refine r_aload_n (pc := 15) C d_M_store_15 rfl 0 rfl ?_
    refine r_getR (pc := 16) (ci := 6) C rfl 11 (by decide) (k_661 C.w) rfl (lay_O hg rfl) d_M_store_16 ?_
    refine r_iload_n (pc := 19) C d_M_store_19 rfl 1 rfl ?_
    obtain ⟨b2, h⟩ := h
    refine r_iald (pc := 20) C (lay_A hg rfl) b2 d_M_store_20 ?_
    refine r_istore (pc := 21) (lv' := [(0, .inr (.inl (some 17))), (1, .inl a1), (2, .inl a2), (3, .inl a3)]) C d_M_store_21 (by decide) rfl ?_
    refine r_bipush (pc := 23) C d_M_store_23 (v := 12) (by decide) ?_
    refine r_iload (pc := 25) C d_M_store_25 0 rfl ?_
    refine r_imul (pc := 27) C d_M_store_27 ?_
    refine r_iload_n (pc := 28) C d_M_store_28 rfl 3 rfl ?_
    refine r_iadd (pc := 29) C d_M_store_29 ?_
    refine r_istore (pc := 30) (lv' := [(4, .inl (mI μ1 27 (a1).toNatClampNeg)), (0, .inr (.inl (some 17))), (1, .inl a1), (2, .inl a2), (3, .inl a3)]) C d_M_store_30 (by decide) rfl ?_
    refine r_aload_n (pc := 32) C d_M_store_32 rfl 2 rfl ?_
    refine r_getR (pc := 33) (ci := 6) C rfl 2 (by decide) (k_652 C.w) rfl (lay_O hg rfl) d_M_store_33 ?_
    refine r_iload (pc := 36) C d_M_store_36 1 rfl ?_
    obtain ⟨b3, h⟩ := h
    refine r_iald (pc := 38) C (lay_A hg rfl) b3 d_M_store_38 ?_
    refine r_iconst (pc := 39) C d_M_store_39 (v := 2) (by decide) ?_
    refine r_icmp_ne (tgt := 98) (pc := 40) C d_M_store_40 (by decide) ?_ ?_
    · intro hc; replace h := h.2 hc
      refine r_aload_n (pc := 98) C d_M_store_98 rfl 2 rfl ?_
      refine r_getR (pc := 99) (ci := 6) C rfl 8 (by decide) (k_658 C.w) rfl (lay_O hg rfl) d_M_store_99 ?_
      refine r_iload (pc := 102) C d_M_store_102 0 rfl ?_
      refine r_aload_n (pc := 104) C d_M_store_104 rfl 2 rfl ?_
      refine r_getR (pc := 105) (ci := 6) C rfl 11 (by decide) (k_661 C.w) rfl (lay_O hg rfl) d_M_store_105 ?_
      refine r_iload_n (pc := 108) C d_M_store_108 rfl 5 rfl ?_
      obtain ⟨b4, h⟩ := h
      refine r_iald (pc := 109) C (lay_A hg rfl) b4 d_M_store_109 ?_
      obtain ⟨b5, h⟩ := h
      refine r_iast (pc := 110) C (lay_A hg rfl) b5 d_M_store_110 ?_
      intro μ6 eμ6; replace h := h μ6 eμ6
      exact r_vret (pc := 111) C Q d_M_store_111 (by decide) (by decide) h
    · intro hc; replace h := h.1 hc
      refine r_aload_n (pc := 43) C d_M_store_43 rfl 2 rfl ?_
      refine r_getR (pc := 44) (ci := 6) C rfl 9 (by decide) (k_659 C.w) rfl (lay_O hg rfl) d_M_store_44 ?_
      refine r_iload (pc := 47) C d_M_store_47 0 rfl ?_
      obtain ⟨b7, h⟩ := h
      refine r_zald (pc := 49) C (lay_A hg rfl) b7 d_M_store_49 ?_
      refine r_if_ne (tgt := 98) (pc := 50) C d_M_store_50 (by decide) ?_ ?_
      · intro hc; replace h := h.2 hc
        refine r_aload_n (pc := 98) C d_M_store_98 rfl 2 rfl ?_
        refine r_getR (pc := 99) (ci := 6) C rfl 8 (by decide) (k_658 C.w) rfl (lay_O hg rfl) d_M_store_99 ?_
        refine r_iload (pc := 102) C d_M_store_102 0 rfl ?_
        refine r_aload_n (pc := 104) C d_M_store_104 rfl 2 rfl ?_
        refine r_getR (pc := 105) (ci := 6) C rfl 11 (by decide) (k_661 C.w) rfl (lay_O hg rfl) d_M_store_105 ?_
        refine r_iload_n (pc := 108) C d_M_store_108 rfl 5 rfl ?_
        obtain ⟨b8, h⟩ := h
        refine r_iald (pc := 109) C (lay_A hg rfl) b8 d_M_store_109 ?_
        refine r_iast (pc := 110) C (lay_A hg rfl) b7 d_M_store_110 ?_
        intro μ9 eμ9; replace h := h μ9 eμ9
        exact r_vret (pc := 111) C Q d_M_store_111 (by decide) (by decide) h
      · intro hc; replace h := h.1 hc
        refine r_aload_n (pc := 53) C d_M_store_53 rfl 2 rfl ?_
        refine r_getR (pc := 54) (ci := 6) C rfl 9 (by decide) (k_659 C.w) rfl (lay_O hg rfl) d_M_store_54 ?_
        refine r_iload (pc := 57) C d_M_store_57 0 rfl ?_
        refine r_iconst (pc := 59) C d_M_store_59 (v := 1) (by decide) ?_
        refine r_zast (pc := 60) C (lay_A hg rfl) b7 d_M_store_60 (Or.inr rfl) ?_
        intro μ10 eμ10; replace h := h μ10 eμ10
        refine r_aload_n (pc := 61) C d_M_store_61 rfl 2 rfl ?_
        refine r_getR (pc := 62) (ci := 6) C rfl 22 (by decide) (k_672 C.w) rfl (lay_O hg rfl) d_M_store_62 ?_
        refine r_aload_n (pc := 65) C d_M_store_65 rfl 2 rfl ?_
        refine r_getI (pc := 66) (ci := 6) C rfl 24 (by decide) (k_674 C.w) rfl (lay_O hg rfl) d_M_store_66 ?_
        refine r_iload (pc := 69) C d_M_store_69 0 rfl ?_
        obtain ⟨b11, h⟩ := h
        refine r_iast (pc := 71) C (lay_A hg rfl) b11 d_M_store_71 ?_
        intro μ12 eμ12; replace h := h μ12 eμ12
        refine r_aload_n (pc := 72) C d_M_store_72 rfl 2 rfl ?_
        refine r_getR (pc := 73) (ci := 6) C rfl 23 (by decide) (k_673 C.w) rfl (lay_O hg rfl) d_M_store_73 ?_
        refine r_aload_n (pc := 76) C d_M_store_76 rfl 2 rfl ?_
        refine r_getI (pc := 77) (ci := 6) C rfl 24 (by decide) (k_674 C.w) rfl (lay_O hg rfl) d_M_store_77 ?_
        refine r_aload_n (pc := 80) C d_M_store_80 rfl 2 rfl ?_
        refine r_getR (pc := 81) (ci := 6) C rfl 8 (by decide) (k_658 C.w) rfl (lay_O hg rfl) d_M_store_81 ?_
        refine r_iload (pc := 84) C d_M_store_84 0 rfl ?_
        refine r_iald (pc := 86) C (lay_A hg rfl) b7 d_M_store_86 ?_
        obtain ⟨b13, h⟩ := h
        refine r_iast (pc := 87) C (lay_A hg rfl) b13 d_M_store_87 ?_
        intro μ14 eμ14; replace h := h μ14 eμ14
        refine r_aload_n (pc := 88) C d_M_store_88 rfl 2 rfl ?_
        refine r_dupR (pc := 89) C d_M_store_89 ?_
        refine r_getI (pc := 90) (ci := 6) C rfl 24 (by decide) (k_674 C.w) rfl (lay_O hg rfl) d_M_store_90 ?_
        refine r_iconst (pc := 93) C d_M_store_93 (v := 1) (by decide) ?_
        refine r_iadd (pc := 94) C d_M_store_94 ?_
        refine r_putI (pc := 95) (ci := 6) C rfl 24 (by decide) (k_674 C.w) rfl rfl p_I (lay_O hg rfl) d_M_store_95 ?_
        intro μ15 eμ15; replace h := h μ15 eμ15
        refine r_aload_n (pc := 98) C d_M_store_98 rfl 2 rfl ?_
        refine r_getR (pc := 99) (ci := 6) C rfl 8 (by decide) (k_658 C.w) rfl (lay_O hg rfl) d_M_store_99 ?_
        refine r_iload (pc := 102) C d_M_store_102 0 rfl ?_
        refine r_aload_n (pc := 104) C d_M_store_104 rfl 2 rfl ?_
        refine r_getR (pc := 105) (ci := 6) C rfl 11 (by decide) (k_661 C.w) rfl (lay_O hg rfl) d_M_store_105 ?_
        refine r_iload_n (pc := 108) C d_M_store_108 rfl 5 rfl ?_
        obtain ⟨b16, h⟩ := h
        refine r_iald (pc := 109) C (lay_A hg rfl) b16 d_M_store_109 ?_
        refine r_iast (pc := 110) C (lay_A hg rfl) b7 d_M_store_110 ?_
        intro μ17 eμ17; replace h := h μ17 eμ17
        exact r_vret (pc := 111) C Q d_M_store_111 (by decide) (by decide) h
  · intro hc; replace h := h.2 hc
    exact r_vret (pc := 14) C Q d_M_store_14 (by decide) (by decide) h
theorem c_M_drain {l : Launch} (hl : l.stackTraces = false) {G : Gl} (hg : gf G = true) {a1 : Int32} {post : Int32 → Mem → Prop} {μ : Mem} (h : wM_drain a1 post μ) : Ct l G i_M_drain [.inr (.inl (some 17)), .inl a1] μ (poI post) noX := by
  refine ct_of hl (by decide) (Nat.le_of_ble_eq_true rfl) ?_
  intro K hKl C Q hE
  clear hl hKl
  replace C : Cx K G prog_8_method_44_code "LineCollectorModel" 3 { frames := 4, cells := 0, slots := 0, locals := 89 } := C
  replace Q : Cq K G { frames := 4, cells := 0, slots := 0, locals := 89 } (some .int) (poI post) noX := Q
  show Rn K G 3 0 [(0, .inr (.inl (some 17))), (1, .inl a1)] [] μ 0 0
  have L_15 : ∀ (l1 : Int32) (k : Int32 → Mem → Prop), (∀ (v2 : Int32) (μ : Mem), k v2 μ → Rn K G 3 37 [(0, .inr (.inl (some 17)))] [] μ 0 0) → ∀ (n : Nat) (l2 : Int32) (μ : Mem), wM_drain_15 l1 k n l2 μ → Rn K G 3 15 [(0, .inr (.inl (some 17))), (1, .inl l1), (2, .inl l2)] [] μ 0 0 := by
    intro l1 k hk n
    induction n with
    | zero => intro l2 μ h; exact h.elim
    | succ n ih =>
      intro l2 μ h
      unfold wM_drain_15 at h
      refine r_iload_n (pc := 15) C d_M_drain_15 rfl 2 rfl ?_
      refine r_iload_n (pc := 16) C d_M_drain_16 rfl 1 rfl ?_
      refine r_icmp_ge (tgt := 37) (pc := 17) C d_M_drain_17 (by decide) ?_ ?_
      · intro hc; replace h := h.1 hc
        refine r_sub [0] rfl ?_
        exact hk l2 μ h
      · intro hc; replace h := h.2 hc
        refine r_aload_n (pc := 20) C d_M_drain_20 rfl 0 rfl ?_
        refine r_getI (pc := 21) (ci := 6) C rfl 21 (by decide) (k_671 C.w) rfl (lay_O hg rfl) d_M_drain_21 ?_
        refine r_if_le (tgt := 37) (pc := 24) C d_M_drain_24 (by decide) ?_ ?_
        · intro hc; replace h := h.1 hc
          refine r_sub [0] rfl ?_
          exact hk l2 μ h
        · intro hc; replace h := h.2 hc
          refine r_aload_n (pc := 27) C d_M_drain_27 rfl 0 rfl ?_
          refine r_cVv (pc := 28) (a' := 0) (b' := 0) (As := []) (ci := 6) C (c_M_drainOne C.s hg h) o_M_drainOne rfl (lay_O hg rfl) (k_795 C.w) rfl ⟨by decide, by decide, by decide, by decide⟩ rfl rfl (Nat.le_of_ble_eq_true rfl) d_M_drain_28 rfl ?_
          intro μ2 h
          refine r_iinc (pc := 31) (v := 1) (lv' := [(0, .inr (.inl (some 17))), (1, .inl l1)]) C d_M_drain_31 2 rfl (by decide) (by decide) rfl ?_
          refine r_goto (tgt := 15) (pc := 34) C d_M_drain_34 (by decide) ?_
          refine r_sub [1, 2, 0] rfl ?_
          exact ih (l2 + 1) μ2 h
  have J_10 : ∀ (l1 : Int32) (t1 : Int32) (μ : Mem), wM_drain_10 l1 t1 post μ → Rn K G 3 10 [(0, .inr (.inl (some 17))), (1, .inl l1)] [.int t1, rv G (some 17)] μ 0 0 := by
    intro l1 t1 μ h
    unfold wM_drain_10 at h
    refine r_putI (pc := 10) (ci := 6) C rfl 0 (by decide) (k_650 C.w) rfl rfl p_I (lay_O hg rfl) d_M_drain_10 ?_
    intro μ1 eμ1; replace h := h μ1 eμ1
    refine r_iconst (pc := 13) C d_M_drain_13 (v := 0) (by decide) ?_
    refine r_istore_n (pc := 14) (lv' := [(0, .inr (.inl (some 17))), (1, .inl l1)]) C d_M_drain_14 rfl (by decide) rfl ?_
    obtain ⟨n5, h⟩ := h
    refine r_sub [1, 2, 0] rfl ?_
    refine L_15 l1 _ ?_ n5 0 μ1 h
    intro v4 μ3 h
    refine r_aload_n (pc := 37) C d_M_drain_37 rfl 0 rfl ?_
    refine r_getI (pc := 38) (ci := 6) C rfl 0 (by decide) (k_650 C.w) rfl (lay_O hg rfl) d_M_drain_38 ?_
    refine r_if_le (tgt := 48) (pc := 41) C d_M_drain_41 (by decide) ?_ ?_
    · intro hc; replace h := h.1 hc
      refine r_aload_n (pc := 48) C d_M_drain_48 rfl 0 rfl ?_
      refine r_getI (pc := 49) (ci := 6) C rfl 21 (by decide) (k_671 C.w) rfl (lay_O hg rfl) d_M_drain_49 ?_
      exact r_iret (pc := 52) C Q d_M_drain_52 (by decide) (by decide) h
    · intro hc; replace h := h.2 hc
      refine r_iconst (pc := 44) C d_M_drain_44 (v := 0) (by decide) ?_
      refine r_goto (tgt := 52) (pc := 45) C d_M_drain_45 (by decide) ?_
      exact r_iret (pc := 52) C Q d_M_drain_52 (by decide) (by decide) h
  unfold wM_drain at h
  refine r_aload_n (pc := 0) C d_M_drain_0 rfl 0 rfl ?_
  refine r_iload_n (pc := 1) C d_M_drain_1 rfl 1 rfl ?_
  refine r_if_ge (tgt := 9) (pc := 2) C d_M_drain_2 (by decide) ?_ ?_
  · intro hc; replace h := h.1 hc
    refine r_iconst (pc := 9) C d_M_drain_9 (v := 0) (by decide) ?_
    exact J_10 a1 0 μ h
  · intro hc; replace h := h.2 hc
    refine r_iconst (pc := 5) C d_M_drain_5 (v := 1) (by decide) ?_
    refine r_goto (tgt := 10) (pc := 6) C d_M_drain_6 (by decide) ?_
    exact J_10 a1 1 μ h
theorem c_M_trace {l : Launch} (hl : l.stackTraces = false) {G : Gl} (hg : gf G = true) {a1 : Int32} {post : Int32 → Mem → Prop} {μ : Mem} (h : wM_trace a1 post μ) : Ct l G i_M_trace [.inr (.inl (some 17)), .inl a1] μ (poI post) noX := by
  refine ct_of hl (by decide) (Nat.le_of_ble_eq_true rfl) ?_
  intro K hKl C Q hE
  clear hl hKl
  replace C : Cx K G prog_8_method_45_code "LineCollectorModel" 3 { frames := 2, cells := 0, slots := 0, locals := 45 } := C
  replace Q : Cq K G { frames := 2, cells := 0, slots := 0, locals := 45 } (some .int) (poI post) noX := Q
  show Rn K G 3 0 [(0, .inr (.inl (some 17))), (1, .inl a1)] [] μ 0 0
  have L_35 : ∀ (l1 : Int32) (k : Int32 → Mem → Prop), (∀ (v2 : Int32) (μ : Mem), k v2 μ → Rn K G 3 57 [(0, .inr (.inl (some 17)))] [] μ 0 0) → ∀ (n : Nat) (l2 : Int32) (μ : Mem), wM_trace_35 l1 k n l2 μ → Rn K G 3 35 [(0, .inr (.inl (some 17))), (1, .inl l1), (2, .inl l2)] [] μ 0 0 := by
    intro l1 k hk n
    induction n with
    | zero => intro l2 μ h; exact h.elim
    | succ n ih =>
      intro l2 μ h
      unfold wM_trace_35 at h
      refine r_iload_n (pc := 35) C d_M_trace_35 rfl 2 rfl ?_
      refine r_iload_n (pc := 36) C d_M_trace_36 rfl 1 rfl ?_
      refine r_icmp_ge (tgt := 57) (pc := 37) C d_M_trace_37 (by decide) ?_ ?_
      · intro hc; replace h := h.1 hc
        refine r_sub [0] rfl ?_
        exact hk l2 μ h
      · intro hc; replace h := h.2 hc
        refine r_aload_n (pc := 40) C d_M_trace_40 rfl 0 rfl ?_
        refine r_cVi (pc := 41) (a' := 0) (b' := 0) (As := []) (ci := 6) C (c_M_greys C.s hg h) o_M_greys rfl (lay_O hg rfl) (k_851 C.w) rfl ⟨by decide, by decide, by decide, by decide⟩ rfl rfl (Nat.le_of_ble_eq_true rfl) d_M_trace_41 rfl ?_
        intro r3 μ2 h
        refine r_if_le (tgt := 57) (pc := 44) C d_M_trace_44 (by decide) ?_ ?_
        · intro hc; replace h := h.1 hc
          refine r_sub [0] rfl ?_
          exact hk l2 μ2 h
        · intro hc; replace h := h.2 hc
          refine r_aload_n (pc := 47) C d_M_trace_47 rfl 0 rfl ?_
          refine r_cVv (pc := 48) (a' := 0) (b' := 0) (As := []) (ci := 6) C (c_M_step C.s hg h) o_M_step rfl (lay_O hg rfl) (k_879 C.w) rfl ⟨by decide, by decide, by decide, by decide⟩ rfl rfl (Nat.le_of_ble_eq_true rfl) d_M_trace_48 rfl ?_
          intro μ4 h
          refine r_iinc (pc := 51) (v := 1) (lv' := [(0, .inr (.inl (some 17))), (1, .inl l1)]) C d_M_trace_51 2 rfl (by decide) (by decide) rfl ?_
          refine r_goto (tgt := 35) (pc := 54) C d_M_trace_54 (by decide) ?_
          refine r_sub [1, 2, 0] rfl ?_
          exact ih (l2 + 1) μ4 h
  have J_21 : ∀ (l1 : Int32) (t1 : Int32) (μ : Mem), wM_trace_21 l1 t1 post μ → Rn K G 3 21 [(0, .inr (.inl (some 17))), (1, .inl l1)] [.int t1, rv G (some 17)] μ 0 0 := by
    intro l1 t1 μ h
    unfold wM_trace_21 at h
    refine r_putI (pc := 21) (ci := 6) C rfl 0 (by decide) (k_650 C.w) rfl rfl p_I (lay_O hg rfl) d_M_trace_21 ?_
    intro μ1 eμ1; replace h := h μ1 eμ1
    refine r_aload_n (pc := 24) C d_M_trace_24 rfl 0 rfl ?_
    refine r_getI (pc := 25) (ci := 6) C rfl 0 (by decide) (k_650 C.w) rfl (lay_O hg rfl) d_M_trace_25 ?_
    refine r_if_le (tgt := 33) (pc := 28) C d_M_trace_28 (by decide) ?_ ?_
    · intro hc; replace h := h.1 hc
      refine r_iconst (pc := 33) C d_M_trace_33 (v := 0) (by decide) ?_
      refine r_istore_n (pc := 34) (lv' := [(0, .inr (.inl (some 17))), (1, .inl l1)]) C d_M_trace_34 rfl (by decide) rfl ?_
      obtain ⟨n9, h⟩ := h
      refine r_sub [1, 2, 0] rfl ?_
      refine L_35 l1 _ ?_ n9 0 μ1 h
      intro v6 μ5 h
      refine r_aload_n (pc := 57) C d_M_trace_57 rfl 0 rfl ?_
      refine r_cVi (pc := 58) (a' := 0) (b' := 0) (As := []) (ci := 6) C (c_M_greys C.s hg h) o_M_greys rfl (lay_O hg rfl) (k_851 C.w) rfl ⟨by decide, by decide, by decide, by decide⟩ rfl rfl (Nat.le_of_ble_eq_true rfl) d_M_trace_58 rfl ?_
      intro r8 μ7 h
      exact r_iret (pc := 61) C Q d_M_trace_61 (by decide) (by decide) h
    · intro hc; replace h := h.2 hc
      refine r_iconst (pc := 31) C d_M_trace_31 (v := 0) (by decide) ?_
      exact r_iret (pc := 32) C Q d_M_trace_32 (by decide) (by decide) h
  unfold wM_trace at h
  refine r_aload_n (pc := 0) C d_M_trace_0 rfl 0 rfl ?_
  refine r_iload_n (pc := 1) C d_M_trace_1 rfl 1 rfl ?_
  refine r_if_ge (tgt := 9) (pc := 2) C d_M_trace_2 (by decide) ?_ ?_
  · intro hc; replace h := h.1 hc
    refine r_aload_n (pc := 9) C d_M_trace_9 rfl 0 rfl ?_
    refine r_getI (pc := 10) (ci := 6) C rfl 27 (by decide) (k_677 C.w) rfl (lay_O hg rfl) d_M_trace_10 ?_
    refine r_if_eq (tgt := 20) (pc := 13) C d_M_trace_13 (by decide) ?_ ?_
    · intro hc; replace h := h.1 hc
      refine r_iconst (pc := 20) C d_M_trace_20 (v := 2) (by decide) ?_
      exact J_21 a1 2 μ h
    · intro hc; replace h := h.2 hc
      refine r_iconst (pc := 16) C d_M_trace_16 (v := 0) (by decide) ?_
      refine r_goto (tgt := 21) (pc := 17) C d_M_trace_17 (by decide) ?_
      exact J_21 a1 0 μ h
  · intro hc; replace h := h.2 hc
    refine r_iconst (pc := 5) C d_M_trace_5 (v := 1) (by decide) ?_
    refine r_goto (tgt := 21) (pc := 6) C d_M_trace_6 (by decide) ?_
    exact J_21 a1 1 μ h
theorem c_M_pause {l : Launch} (hl : l.stackTraces = false) {G : Gl} (hg : gf G = true) {a1 : Int32} {post : Int32 → Mem → Prop} {μ : Mem} (h : wM_pause a1 post μ) : Ct l G i_M_pause [.inr (.inl (some 17)), .inl a1] μ (poI post) noX := by
  refine ct_of hl (by decide) (Nat.le_of_ble_eq_true rfl) ?_
  intro K hKl C Q hE
  clear hl hKl
  replace C : Cx K G prog_8_method_46_code "LineCollectorModel" 2 { frames := 9, cells := 0, slots := 0, locals := 200 } := C
  replace Q : Cq K G { frames := 9, cells := 0, slots := 0, locals := 200 } (some .int) (poI post) noX := Q
  show Rn K G 2 0 [(0, .inr (.inl (some 17))), (1, .inl a1)] [] μ 0 0
  unfold wM_pause at h
  refine r_aload_n (pc := 0) C d_M_pause_0 rfl 0 rfl ?_
  refine r_iconst (pc := 1) C d_M_pause_1 (v := 0) (by decide) ?_
  refine r_putI (pc := 2) (ci := 6) C rfl 0 (by decide) (k_650 C.w) rfl rfl p_I (lay_O hg rfl) d_M_pause_2 ?_
  intro μ1 eμ1; replace h := h μ1 eμ1
  refine r_aload_n (pc := 5) C d_M_pause_5 rfl 0 rfl ?_
  refine r_iload_n (pc := 6) C d_M_pause_6 rfl 1 rfl ?_
  refine r_cVi (pc := 7) (a' := 0) (b' := 0) (As := [.inl a1]) (ci := 6) C (c_M_halt C.s hg h) o_M_halt rfl (lay_O hg rfl) (k_787 C.w) rfl ⟨by decide, by decide, by decide, by decide⟩ rfl rfl (Nat.le_of_ble_eq_true rfl) d_M_pause_7 rfl ?_
  intro r3 μ2 h
  exact r_iret (pc := 10) C Q d_M_pause_10 (by decide) (by decide) h
theorem c_M_root {l : Launch} (hl : l.stackTraces = false) {G : Gl} (hg : gf G = true) {a1 : Int32} {post : Int32 → Mem → Prop} {μ : Mem} (h : wM_root a1 post μ) : Ct l G i_M_root [.inr (.inl (some 17)), .inl a1] μ (poI post) noX := by
  refine ct_of hl (by decide) (Nat.le_of_ble_eq_true rfl) ?_
  intro K hKl C Q hE
  clear hl hKl
  replace C : Cx K G prog_8_method_47_code "LineCollectorModel" 2 { frames := 1, cells := 0, slots := 0, locals := 21 } := C
  replace Q : Cq K G { frames := 1, cells := 0, slots := 0, locals := 21 } (some .int) (poI post) noX := Q
  show Rn K G 2 0 [(0, .inr (.inl (some 17))), (1, .inl a1)] [] μ 0 0
  have J_13 : ∀ (l1 : Int32) (t1 : Int32) (μ : Mem), wM_root_13 l1 t1 post μ → Rn K G 2 13 [(0, .inr (.inl (some 17))), (1, .inl l1)] [.int t1, rv G (some 17)] μ 0 0 := by
    intro l1 t1 μ h
    unfold wM_root_13 at h
    refine r_putI (pc := 13) (ci := 6) C rfl 0 (by decide) (k_650 C.w) rfl rfl p_I (lay_O hg rfl) d_M_root_13 ?_
    intro μ3 eμ3; replace h := h μ3 eμ3
    refine r_aload_n (pc := 16) C d_M_root_16 rfl 0 rfl ?_
    refine r_getI (pc := 17) (ci := 6) C rfl 0 (by decide) (k_650 C.w) rfl (lay_O hg rfl) d_M_root_17 ?_
    refine r_if_le (tgt := 27) (pc := 20) C d_M_root_20 (by decide) ?_ ?_
    · intro hc; replace h := h.1 hc
      refine r_aload_n (pc := 27) C d_M_root_27 rfl 0 rfl ?_
      refine r_aload_n (pc := 28) C d_M_root_28 rfl 0 rfl ?_
      refine r_getR (pc := 29) (ci := 6) C rfl 11 (by decide) (k_661 C.w) rfl (lay_O hg rfl) d_M_root_29 ?_
      refine r_iload_n (pc := 32) C d_M_root_32 rfl 1 rfl ?_
      obtain ⟨b4, h⟩ := h
      refine r_iald (pc := 33) C (lay_A hg rfl) b4 d_M_root_33 ?_
      refine r_cVi (pc := 34) (a' := 0) (b' := 0) (As := [.inl (mI μ3 27 (l1).toNatClampNeg)]) (ci := 6) C (c_M_addressOf C.s hg h) o_M_addressOf rfl (lay_O hg rfl) (k_903 C.w) rfl ⟨by decide, by decide, by decide, by decide⟩ rfl rfl (Nat.le_of_ble_eq_true rfl) d_M_root_34 rfl ?_
      intro r6 μ5 h
      exact r_iret (pc := 37) C Q d_M_root_37 (by decide) (by decide) h
    · intro hc; replace h := h.2 hc
      refine r_iconst (pc := 23) C d_M_root_23 (v := 0) (by decide) ?_
      refine r_goto (tgt := 37) (pc := 24) C d_M_root_24 (by decide) ?_
      exact r_iret (pc := 37) C Q d_M_root_37 (by decide) (by decide) h
  unfold wM_root at h
  refine r_aload_n (pc := 0) C d_M_root_0 rfl 0 rfl ?_
  refine r_iload_n (pc := 1) C d_M_root_1 rfl 1 rfl ?_
  refine r_cSi (pc := 2) (a' := 0) (b' := 0) (As := [.inl a1]) C (c_M_isRoot C.s hg h) o_M_isRoot (k_752 C.w) rfl ⟨by decide, by decide, by decide, by decide⟩ rfl rfl (Nat.le_of_ble_eq_true rfl) d_M_root_2 rfl ?_
  intro r2 μ1 h
  refine r_if_eq (tgt := 12) (pc := 5) C d_M_root_5 (by decide) ?_ ?_
  · intro hc; replace h := h.1 hc
    refine r_iconst (pc := 12) C d_M_root_12 (v := 1) (by decide) ?_
    exact J_13 a1 1 μ1 h
  · intro hc; replace h := h.2 hc
    refine r_iconst (pc := 8) C d_M_root_8 (v := 0) (by decide) ?_
    refine r_goto (tgt := 13) (pc := 9) C d_M_root_9 (by decide) ?_
    exact J_13 a1 0 μ1 h
theorem c_M_field {l : Launch} (hl : l.stackTraces = false) {G : Gl} (hg : gf G = true) {a1 : Int32} {a2 : Int32} {post : Int32 → Mem → Prop} {μ : Mem} (h : wM_field a1 a2 post μ) : Ct l G i_M_field [.inr (.inl (some 17)), .inl a1, .inl a2] μ (poI post) noX := by
  refine ct_of hl (by decide) (Nat.le_of_ble_eq_true rfl) ?_
  intro K hKl C Q hE
  clear hl hKl
  replace C : Cx K G prog_8_method_48_code "LineCollectorModel" 4 { frames := 1, cells := 0, slots := 0, locals := 21 } := C
  replace Q : Cq K G { frames := 1, cells := 0, slots := 0, locals := 21 } (some .int) (poI post) noX := Q
  show Rn K G 4 0 [(0, .inr (.inl (some 17))), (1, .inl a1), (2, .inl a2)] [] μ 0 0
  have J_49 : ∀ (l2 : Int32) (l3 : Int32) (μ : Mem), wM_field_49 l2 l3 post μ → Rn K G 4 49 [(0, .inr (.inl (some 17))), (2, .inl l2), (3, .inl l3)] [] μ 0 0 := by
    intro l2 l3 μ h
    unfold wM_field_49 at h
    refine r_aload_n (pc := 49) C d_M_field_49 rfl 0 rfl ?_
    refine r_getI (pc := 50) (ci := 6) C rfl 0 (by decide) (k_650 C.w) rfl (lay_O hg rfl) d_M_field_50 ?_
    refine r_if_le (tgt := 60) (pc := 53) C d_M_field_53 (by decide) ?_ ?_
    · intro hc; replace h := h.1 hc
      refine r_aload_n (pc := 60) C d_M_field_60 rfl 0 rfl ?_
      refine r_aload_n (pc := 61) C d_M_field_61 rfl 0 rfl ?_
      refine r_getR (pc := 62) (ci := 6) C rfl 8 (by decide) (k_658 C.w) rfl (lay_O hg rfl) d_M_field_62 ?_
      refine r_bipush (pc := 65) C d_M_field_65 (v := 12) (by decide) ?_
      refine r_iload_n (pc := 67) C d_M_field_67 rfl 2 rfl ?_
      refine r_imul (pc := 68) C d_M_field_68 ?_
      refine r_iload_n (pc := 69) C d_M_field_69 rfl 1 rfl ?_
      refine r_iadd (pc := 70) C d_M_field_70 ?_
      obtain ⟨b4, h⟩ := h
      refine r_iald (pc := 71) C (lay_A hg rfl) b4 d_M_field_71 ?_
      refine r_cVi (pc := 72) (a' := 0) (b' := 0) (As := [.inl (mI μ 25 ((12 * l3) + l2).toNatClampNeg)]) (ci := 6) C (c_M_addressOf C.s hg h) o_M_addressOf rfl (lay_O hg rfl) (k_903 C.w) rfl ⟨by decide, by decide, by decide, by decide⟩ rfl rfl (Nat.le_of_ble_eq_true rfl) d_M_field_72 rfl ?_
      intro r6 μ5 h
      exact r_iret (pc := 75) C Q d_M_field_75 (by decide) (by decide) h
    · intro hc; replace h := h.2 hc
      refine r_iconst (pc := 56) C d_M_field_56 (v := 0) (by decide) ?_
      refine r_goto (tgt := 75) (pc := 57) C d_M_field_57 (by decide) ?_
      exact r_iret (pc := 75) C Q d_M_field_75 (by decide) (by decide) h
  have J_46 : ∀ (l2 : Int32) (l3 : Int32) (t1 : Int32) (μ : Mem), wM_field_46 l2 l3 t1 post μ → Rn K G 4 46 [(0, .inr (.inl (some 17))), (2, .inl l2), (3, .inl l3)] [.int t1, rv G (some 17)] μ 0 0 := by
    intro l2 l3 t1 μ h
    unfold wM_field_46 at h
    refine r_putI (pc := 46) (ci := 6) C rfl 0 (by decide) (k_650 C.w) rfl rfl p_I (lay_O hg rfl) d_M_field_46 ?_
    intro μ7 eμ7; replace h := h μ7 eμ7
    exact J_49 l2 l3 μ7 h
  have J_45 : ∀ (l2 : Int32) (l3 : Int32) (μ : Mem), wM_field_45 l2 l3 post μ → Rn K G 4 45 [(0, .inr (.inl (some 17))), (2, .inl l2), (3, .inl l3)] [rv G (some 17)] μ 0 0 := by
    intro l2 l3 μ h
    unfold wM_field_45 at h
    refine r_iconst (pc := 45) C d_M_field_45 (v := 2) (by decide) ?_
    exact J_46 l2 l3 2 μ h
  have J_16 : ∀ (l2 : Int32) (l3 : Int32) (t1 : Int32) (μ : Mem), wM_field_16 l2 l3 t1 post μ → Rn K G 4 16 [(0, .inr (.inl (some 17))), (2, .inl l2), (3, .inl l3)] [.int t1, rv G (some 17)] μ 0 0 := by
    intro l2 l3 t1 μ h
    unfold wM_field_16 at h
    refine r_putI (pc := 16) (ci := 6) C rfl 0 (by decide) (k_650 C.w) rfl rfl p_I (lay_O hg rfl) d_M_field_16 ?_
    intro μ3 eμ3; replace h := h μ3 eμ3
    refine r_aload_n (pc := 19) C d_M_field_19 rfl 0 rfl ?_
    refine r_getI (pc := 20) (ci := 6) C rfl 0 (by decide) (k_650 C.w) rfl (lay_O hg rfl) d_M_field_20 ?_
    refine r_if_ne (tgt := 49) (pc := 23) C d_M_field_23 (by decide) ?_ ?_
    · intro hc; replace h := h.2 hc
      exact J_49 l2 l3 μ3 h
    · intro hc; replace h := h.1 hc
      refine r_aload_n (pc := 26) C d_M_field_26 rfl 0 rfl ?_
      refine r_iload_n (pc := 27) C d_M_field_27 rfl 1 rfl ?_
      refine r_if_lt (tgt := 45) (pc := 28) C d_M_field_28 (by decide) ?_ ?_
      · intro hc; replace h := h.1 hc
        exact J_45 l2 l3 μ3 h
      · intro hc; replace h := h.2 hc
        refine r_iload_n (pc := 31) C d_M_field_31 rfl 1 rfl ?_
        refine r_aload_n (pc := 32) C d_M_field_32 rfl 0 rfl ?_
        refine r_getR (pc := 33) (ci := 6) C rfl 4 (by decide) (k_654 C.w) rfl (lay_O hg rfl) d_M_field_33 ?_
        refine r_iload_n (pc := 36) C d_M_field_36 rfl 2 rfl ?_
        obtain ⟨b8, h⟩ := h
        refine r_iald (pc := 37) C (lay_A hg rfl) b8 d_M_field_37 ?_
        refine r_icmp_ge (tgt := 45) (pc := 38) C d_M_field_38 (by decide) ?_ ?_
        · intro hc; replace h := h.1 hc
          exact J_45 l2 l3 μ3 h
        · intro hc; replace h := h.2 hc
          refine r_iconst (pc := 41) C d_M_field_41 (v := 0) (by decide) ?_
          refine r_goto (tgt := 46) (pc := 42) C d_M_field_42 (by decide) ?_
          exact J_46 l2 l3 0 μ3 h
  unfold wM_field at h
  refine r_aload_n (pc := 0) C d_M_field_0 rfl 0 rfl ?_
  refine r_iload_n (pc := 1) C d_M_field_1 rfl 1 rfl ?_
  refine r_cVi (pc := 2) (a' := 0) (b' := 0) (As := [.inl a1]) (ci := 6) C (c_M_objectAt C.s hg h) o_M_objectAt rfl (lay_O hg rfl) (k_859 C.w) rfl ⟨by decide, by decide, by decide, by decide⟩ rfl rfl (Nat.le_of_ble_eq_true rfl) d_M_field_2 rfl ?_
  intro r2 μ1 h
  refine r_istore_n (pc := 5) (lv' := [(0, .inr (.inl (some 17))), (1, .inl a1), (2, .inl a2)]) C d_M_field_5 rfl (by decide) rfl ?_
  refine r_aload_n (pc := 6) C d_M_field_6 rfl 1 rfl ?_
  refine r_iload_n (pc := 7) C d_M_field_7 rfl 0 rfl ?_
  refine r_if_ge (tgt := 15) (pc := 8) C d_M_field_8 (by decide) ?_ ?_
  · intro hc; replace h := h.1 hc
    refine r_iconst (pc := 15) C d_M_field_15 (v := 0) (by decide) ?_
    refine r_sub [1, 3, 0] rfl ?_
    exact J_16 a2 r2 0 μ1 h
  · intro hc; replace h := h.2 hc
    refine r_iconst (pc := 11) C d_M_field_11 (v := 1) (by decide) ?_
    refine r_goto (tgt := 16) (pc := 12) C d_M_field_12 (by decide) ?_
    refine r_sub [1, 3, 0] rfl ?_
    exact J_16 a2 r2 1 μ1 h
theorem c_M_object {l : Launch} (hl : l.stackTraces = false) {G : Gl} (hg : gf G = true) {a1 : Int32} {a2 : Int32} {post : Int32 → Mem → Prop} {μ : Mem} (h : wM_object a1 a2 post μ) : Ct l G i_M_object [.inr (.inl (some 17)), .inl a1, .inl a2] μ (poI post) noX := by
  refine ct_of hl (by decide) (Nat.le_of_ble_eq_true rfl) ?_
  intro K hKl C Q hE
  clear hl hKl
  replace C : Cx K G prog_8_method_49_code "LineCollectorModel" 4 { frames := 1, cells := 0, slots := 0, locals := 21 } := C
  replace Q : Cq K G { frames := 1, cells := 0, slots := 0, locals := 21 } (some .int) (poI post) noX := Q
  show Rn K G 4 0 [(0, .inr (.inl (some 17))), (1, .inl a1), (2, .inl a2)] [] μ 0 0
  have J_29 : ∀ (l2 : Int32) (l3 : Int32) (t1 : Int32) (μ : Mem), wM_object_29 l2 l3 t1 post μ → Rn K G 4 29 [(0, .inr (.inl (some 17))), (2, .inl l2), (3, .inl l3)] [.int t1, rv G (some 17)] μ 0 0 := by
    intro l2 l3 t1 μ h
    unfold wM_object_29 at h
    refine r_putI (pc := 29) (ci := 6) C rfl 0 (by decide) (k_650 C.w) rfl rfl p_I (lay_O hg rfl) d_M_object_29 ?_
    intro μ3 eμ3; replace h := h μ3 eμ3
    refine r_aload_n (pc := 32) C d_M_object_32 rfl 0 rfl ?_
    refine r_getI (pc := 33) (ci := 6) C rfl 0 (by decide) (k_650 C.w) rfl (lay_O hg rfl) d_M_object_33 ?_
    refine r_if_le (tgt := 41) (pc := 36) C d_M_object_36 (by decide) ?_ ?_
    · intro hc; replace h := h.1 hc
      refine r_iload_n (pc := 41) C d_M_object_41 rfl 1 rfl ?_
      refine r_if_ne (tgt := 54) (pc := 42) C d_M_object_42 (by decide) ?_ ?_
      · intro hc; replace h := h.2 hc
        refine r_iload_n (pc := 54) C d_M_object_54 rfl 1 rfl ?_
        refine r_iconst (pc := 55) C d_M_object_55 (v := 1) (by decide) ?_
        refine r_icmp_ne (tgt := 68) (pc := 56) C d_M_object_56 (by decide) ?_ ?_
        · intro hc; replace h := h.2 hc
          refine r_iload_n (pc := 68) C d_M_object_68 rfl 1 rfl ?_
          refine r_iconst (pc := 69) C d_M_object_69 (v := 2) (by decide) ?_
          refine r_icmp_ne (tgt := 82) (pc := 70) C d_M_object_70 (by decide) ?_ ?_
          · intro hc; replace h := h.2 hc
            refine r_aload_n (pc := 82) C d_M_object_82 rfl 0 rfl ?_
            refine r_getR (pc := 83) (ci := 6) C rfl 7 (by decide) (k_657 C.w) rfl (lay_O hg rfl) d_M_object_83 ?_
            refine r_iload_n (pc := 86) C d_M_object_86 rfl 2 rfl ?_
            obtain ⟨b4, h⟩ := h
            refine r_iald (pc := 87) C (lay_A hg rfl) b4 d_M_object_87 ?_
            exact r_iret (pc := 88) C Q d_M_object_88 (by decide) (by decide) h
          · intro hc; replace h := h.1 hc
            refine r_aload_n (pc := 73) C d_M_object_73 rfl 0 rfl ?_
            refine r_getR (pc := 74) (ci := 6) C rfl 6 (by decide) (k_656 C.w) rfl (lay_O hg rfl) d_M_object_74 ?_
            refine r_iload_n (pc := 77) C d_M_object_77 rfl 2 rfl ?_
            obtain ⟨b5, h⟩ := h
            refine r_iald (pc := 78) C (lay_A hg rfl) b5 d_M_object_78 ?_
            refine r_goto (tgt := 88) (pc := 79) C d_M_object_79 (by decide) ?_
            exact r_iret (pc := 88) C Q d_M_object_88 (by decide) (by decide) h
        · intro hc; replace h := h.1 hc
          refine r_aload_n (pc := 59) C d_M_object_59 rfl 0 rfl ?_
          refine r_getR (pc := 60) (ci := 6) C rfl 5 (by decide) (k_655 C.w) rfl (lay_O hg rfl) d_M_object_60 ?_
          refine r_iload_n (pc := 63) C d_M_object_63 rfl 2 rfl ?_
          obtain ⟨b6, h⟩ := h
          refine r_iald (pc := 64) C (lay_A hg rfl) b6 d_M_object_64 ?_
          refine r_goto (tgt := 88) (pc := 65) C d_M_object_65 (by decide) ?_
          exact r_iret (pc := 88) C Q d_M_object_88 (by decide) (by decide) h
      · intro hc; replace h := h.1 hc
        refine r_aload_n (pc := 45) C d_M_object_45 rfl 0 rfl ?_
        refine r_getR (pc := 46) (ci := 6) C rfl 4 (by decide) (k_654 C.w) rfl (lay_O hg rfl) d_M_object_46 ?_
        refine r_iload_n (pc := 49) C d_M_object_49 rfl 2 rfl ?_
        obtain ⟨b7, h⟩ := h
        refine r_iald (pc := 50) C (lay_A hg rfl) b7 d_M_object_50 ?_
        refine r_goto (tgt := 88) (pc := 51) C d_M_object_51 (by decide) ?_
        exact r_iret (pc := 88) C Q d_M_object_88 (by decide) (by decide) h
    · intro hc; replace h := h.2 hc
      refine r_iconst (pc := 39) C d_M_object_39 (v := 0) (by decide) ?_
      exact r_iret (pc := 40) C Q d_M_object_40 (by decide) (by decide) h
  have J_16 : ∀ (l2 : Int32) (l3 : Int32) (μ : Mem), wM_object_16 l2 l3 post μ → Rn K G 4 16 [(0, .inr (.inl (some 17))), (2, .inl l2), (3, .inl l3)] [rv G (some 17)] μ 0 0 := by
    intro l2 l3 μ h
    unfold wM_object_16 at h
    refine r_iconst (pc := 16) C d_M_object_16 (v := 1) (by decide) ?_
    refine r_goto (tgt := 29) (pc := 17) C d_M_object_17 (by decide) ?_
    exact J_29 l2 l3 1 μ h
  unfold wM_object at h
  refine r_aload_n (pc := 0) C d_M_object_0 rfl 0 rfl ?_
  refine r_iload_n (pc := 1) C d_M_object_1 rfl 1 rfl ?_
  refine r_cVi (pc := 2) (a' := 0) (b' := 0) (As := [.inl a1]) (ci := 6) C (c_M_objectAt C.s hg h) o_M_objectAt rfl (lay_O hg rfl) (k_859 C.w) rfl ⟨by decide, by decide, by decide, by decide⟩ rfl rfl (Nat.le_of_ble_eq_true rfl) d_M_object_2 rfl ?_
  intro r2 μ1 h
  refine r_istore_n (pc := 5) (lv' := [(0, .inr (.inl (some 17))), (1, .inl a1), (2, .inl a2)]) C d_M_object_5 rfl (by decide) rfl ?_
  refine r_aload_n (pc := 6) C d_M_object_6 rfl 1 rfl ?_
  refine r_iload_n (pc := 7) C d_M_object_7 rfl 3 rfl ?_
  refine r_if_lt (tgt := 16) (pc := 8) C d_M_object_8 (by decide) ?_ ?_
  · intro hc; replace h := h.1 hc
    refine r_sub [1, 3, 0] rfl ?_
    exact J_16 a2 r2 μ1 h
  · intro hc; replace h := h.2 hc
    refine r_iload_n (pc := 11) C d_M_object_11 rfl 3 rfl ?_
    refine r_iconst (pc := 12) C d_M_object_12 (v := 3) (by decide) ?_
    refine r_icmp_le (tgt := 20) (pc := 13) C d_M_object_13 (by decide) ?_ ?_
    · intro hc; replace h := h.1 hc
      refine r_iload_n (pc := 20) C d_M_object_20 rfl 0 rfl ?_
      refine r_if_ge (tgt := 28) (pc := 21) C d_M_object_21 (by decide) ?_ ?_
      · intro hc; replace h := h.1 hc
        refine r_iconst (pc := 28) C d_M_object_28 (v := 0) (by decide) ?_
        refine r_sub [1, 3, 0] rfl ?_
        exact J_29 a2 r2 0 μ1 h
      · intro hc; replace h := h.2 hc
        refine r_iconst (pc := 24) C d_M_object_24 (v := 2) (by decide) ?_
        refine r_goto (tgt := 29) (pc := 25) C d_M_object_25 (by decide) ?_
        refine r_sub [1, 3, 0] rfl ?_
        exact J_29 a2 r2 2 μ1 h
    · intro hc; replace h := h.2 hc
      refine r_sub [1, 3, 0] rfl ?_
      exact J_16 a2 r2 μ1 h
