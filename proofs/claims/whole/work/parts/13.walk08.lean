/-! The machine meets the predicates (written by a program) -/
theorem c_M_drain {l : Launch} (hl : l.stackTraces = false) {G : Gl} {a1 : Int32} {post : Int32 → Mem → Prop} {μ : Mem} (h : wM_drain a1 post μ) : Ct l G i_M_drain [.inr (.inl (some 17)), .inl a1] μ (poI post) noX := by
  refine ct_of hl (by decide) (Nat.le_of_ble_eq_true rfl) ?_
  intro K hKl C hE
  clear hl hKl
  replace C : Cx K G prog_8_method_44_code "LineCollectorModel" 3 { frames := 4, cells := 0, slots := 0, locals := 89 } (some .int) (poI post) noX := C
  show Rn K G 3 0 [(0, .inr (.inl (some 17))), (1, .inl a1)] [] μ 0 0
  have L_15 : ∀ (l1 : Int32) (k : Int32 → Mem → Prop), (∀ (v2 : Int32) (μ : Mem), k v2 μ → Rn K G 3 37 [(0, .inr (.inl (some 17)))] [] μ 0 0) → ∀ (n : Nat) (l2 : Int32) (μ : Mem), wM_drain_15 l1 k n l2 μ → Rn K G 3 15 [(0, .inr (.inl (some 17))), (1, .inl l1), (2, .inl l2)] [] μ 0 0 := by
    intro l1 k hk n
    induction n with
    | zero => intro l2 μ h; exact h.elim
    | succ n ih =>
      intro l2 μ h
      unfold wM_drain_15 at h
      refine r_iload_n (pc := 15) C d_M_drain_15 rfl 2 rfl ?_
      refine r_iload_n (pc := 16) C d_M_drain_16 rfl 1 rfl ?_
      refine r_icmp_ge (tgt := 37) (pc := 17) C d_M_drain_17 (by decide) ?_ ?_
      · intro hc; replace h := h.1 hc
        refine r_sub [0] rfl ?_
        exact hk l2 μ h
      · intro hc; replace h := h.2 hc
        refine r_aload_n (pc := 20) C d_M_drain_20 rfl 0 rfl ?_
        refine r_getI (pc := 21) (ci := 6) C rfl 21 (by decide) (k_671 C.w) rfl (lay_O rfl) d_M_drain_21 ?_
        refine r_if_le (tgt := 37) (pc := 24) C d_M_drain_24 (by decide) ?_ ?_
        · intro hc; replace h := h.1 hc
          refine r_sub [0] rfl ?_
          exact hk l2 μ h
        · intro hc; replace h := h.2 hc
          refine r_aload_n (pc := 27) C d_M_drain_27 rfl 0 rfl ?_
          refine r_cVv (pc := 28) (a' := 0) (b' := 0) (As := []) (ci := 6) C (c_M_drainOne C.s h) o_M_drainOne rfl (lay_O rfl) (k_795 C.w) rfl ⟨by decide, by decide, by decide, by decide⟩ rfl rfl (Nat.le_of_ble_eq_true rfl) d_M_drain_28 rfl ?_
          intro μ2 h
          refine r_iinc (pc := 31) (v := 1) (lv' := [(0, .inr (.inl (some 17))), (1, .inl l1)]) C d_M_drain_31 2 rfl (by decide) (by decide) rfl ?_
          refine r_goto (tgt := 15) (pc := 34) C d_M_drain_34 (by decide) ?_
          refine r_sub [1, 2, 0] rfl ?_
          exact ih (l2 + 1) μ2 h
  have J_10 : ∀ (l1 : Int32) (t1 : Int32) (μ : Mem), wM_drain_10 l1 t1 post μ → Rn K G 3 10 [(0, .inr (.inl (some 17))), (1, .inl l1)] [.int t1, rv G (some 17)] μ 0 0 := by
    intro l1 t1 μ h
    unfold wM_drain_10 at h
    refine r_putI (pc := 10) (ci := 6) C rfl 0 (by decide) (k_650 C.w) rfl rfl p_I (lay_O rfl) d_M_drain_10 ?_
    intro μ1 eμ1; replace h := h μ1 eμ1
    refine r_iconst (pc := 13) C d_M_drain_13 (v := 0) (by decide) ?_
    refine r_istore_n (pc := 14) (lv' := [(0, .inr (.inl (some 17))), (1, .inl l1)]) C d_M_drain_14 rfl (by decide) rfl ?_
    obtain ⟨n5, h⟩ := h
    refine r_sub [1, 2, 0] rfl ?_
    refine L_15 l1 _ ?_ n5 0 μ1 h
    intro v4 μ3 h
    refine r_aload_n (pc := 37) C d_M_drain_37 rfl 0 rfl ?_
    refine r_getI (pc := 38) (ci := 6) C rfl 0 (by decide) (k_650 C.w) rfl (lay_O rfl) d_M_drain_38 ?_
    refine r_if_le (tgt := 48) (pc := 41) C d_M_drain_41 (by decide) ?_ ?_
    · intro hc; replace h := h.1 hc
      refine r_aload_n (pc := 48) C d_M_drain_48 rfl 0 rfl ?_
      refine r_getI (pc := 49) (ci := 6) C rfl 21 (by decide) (k_671 C.w) rfl (lay_O rfl) d_M_drain_49 ?_
      exact r_iret (pc := 52) C d_M_drain_52 (by decide) (by decide) h
    · intro hc; replace h := h.2 hc
      refine r_iconst (pc := 44) C d_M_drain_44 (v := 0) (by decide) ?_
      refine r_goto (tgt := 52) (pc := 45) C d_M_drain_45 (by decide) ?_
      exact r_iret (pc := 52) C d_M_drain_52 (by decide) (by decide) h
  unfold wM_drain at h
  refine r_aload_n (pc := 0) C d_M_drain_0 rfl 0 rfl ?_
  refine r_iload_n (pc := 1) C d_M_drain_1 rfl 1 rfl ?_
  refine r_if_ge (tgt := 9) (pc := 2) C d_M_drain_2 (by decide) ?_ ?_
  · intro hc; replace h := h.1 hc
    refine r_iconst (pc := 9) C d_M_drain_9 (v := 0) (by decide) ?_
    exact J_10 a1 0 μ h
  · intro hc; replace h := h.2 hc
    refine r_iconst (pc := 5) C d_M_drain_5 (v := 1) (by decide) ?_
    refine r_goto (tgt := 10) (pc := 6) C d_M_drain_6 (by decide) ?_
    exact J_10 a1 1 μ h
theorem c_M_trace {l : Launch} (hl : l.stackTraces = false) {G : Gl} {a1 : Int32} {post : Int32 → Mem → Prop} {μ : Mem} (h : wM_trace a1 post μ) : Ct l G i_M_trace [.inr (.inl (some 17)), .inl a1] μ (poI post) noX := by
  refine ct_of hl (by decide) (Nat.le_of_ble_eq_true rfl) ?_
  intro K hKl C hE
  clear hl hKl
  replace C : Cx K G prog_8_method_45_code "LineCollectorModel" 3 { frames := 2, cells := 0, slots := 0, locals := 45 } (some .int) (poI post) noX := C
  show Rn K G 3 0 [(0, .inr (.inl (some 17))), (1, .inl a1)] [] μ 0 0
  have L_35 : ∀ (l1 : Int32) (k : Int32 → Mem → Prop), (∀ (v2 : Int32) (μ : Mem), k v2 μ → Rn K G 3 57 [(0, .inr (.inl (some 17)))] [] μ 0 0) → ∀ (n : Nat) (l2 : Int32) (μ : Mem), wM_trace_35 l1 k n l2 μ → Rn K G 3 35 [(0, .inr (.inl (some 17))), (1, .inl l1), (2, .inl l2)] [] μ 0 0 := by
    intro l1 k hk n
    induction n with
    | zero => intro l2 μ h; exact h.elim
    | succ n ih =>
      intro l2 μ h
      unfold wM_trace_35 at h
      refine r_iload_n (pc := 35) C d_M_trace_35 rfl 2 rfl ?_
      refine r_iload_n (pc := 36) C d_M_trace_36 rfl 1 rfl ?_
      refine r_icmp_ge (tgt := 57) (pc := 37) C d_M_trace_37 (by decide) ?_ ?_
      · intro hc; replace h := h.1 hc
        refine r_sub [0] rfl ?_
        exact hk l2 μ h
      · intro hc; replace h := h.2 hc
        refine r_aload_n (pc := 40) C d_M_trace_40 rfl 0 rfl ?_
        refine r_cVi (pc := 41) (a' := 0) (b' := 0) (As := []) (ci := 6) C (c_M_greys C.s h) o_M_greys rfl (lay_O rfl) (k_851 C.w) rfl ⟨by decide, by decide, by decide, by decide⟩ rfl rfl (Nat.le_of_ble_eq_true rfl) d_M_trace_41 rfl ?_
        intro r3 μ2 h
        refine r_if_le (tgt := 57) (pc := 44) C d_M_trace_44 (by decide) ?_ ?_
        · intro hc; replace h := h.1 hc
          refine r_sub [0] rfl ?_
          exact hk l2 μ2 h
        · intro hc; replace h := h.2 hc
          refine r_aload_n (pc := 47) C d_M_trace_47 rfl 0 rfl ?_
          refine r_cVv (pc := 48) (a' := 0) (b' := 0) (As := []) (ci := 6) C (c_M_step C.s h) o_M_step rfl (lay_O rfl) (k_879 C.w) rfl ⟨by decide, by decide, by decide, by decide⟩ rfl rfl (Nat.le_of_ble_eq_true rfl) d_M_trace_48 rfl ?_
          intro μ4 h
          refine r_iinc (pc := 51) (v := 1) (lv' := [(0, .inr (.inl (some 17))), (1, .inl l1)]) C d_M_trace_51 2 rfl (by decide) (by decide) rfl ?_
          refine r_goto (tgt := 35) (pc := 54) C d_M_trace_54 (by decide) ?_
          refine r_sub [1, 2, 0] rfl ?_
          exact ih (l2 + 1) μ4 h
  have J_21 : ∀ (l1 : Int32) (t1 : Int32) (μ : Mem), wM_trace_21 l1 t1 post μ → Rn K G 3 21 [(0, .inr (.inl (some 17))), (1, .inl l1)] [.int t1, rv G (some 17)] μ 0 0 := by
    intro l1 t1 μ h
    unfold wM_trace_21 at h
    refine r_putI (pc := 21) (ci := 6) C rfl 0 (by decide) (k_650 C.w) rfl rfl p_I (lay_O rfl) d_M_trace_21 ?_
    intro μ1 eμ1; replace h := h μ1 eμ1
    refine r_aload_n (pc := 24) C d_M_trace_24 rfl 0 rfl ?_
    refine r_getI (pc := 25) (ci := 6) C rfl 0 (by decide) (k_650 C.w) rfl (lay_O rfl) d_M_trace_25 ?_
    refine r_if_le (tgt := 33) (pc := 28) C d_M_trace_28 (by decide) ?_ ?_
    · intro hc; replace h := h.1 hc
      refine r_iconst (pc := 33) C d_M_trace_33 (v := 0) (by decide) ?_
      refine r_istore_n (pc := 34) (lv' := [(0, .inr (.inl (some 17))), (1, .inl l1)]) C d_M_trace_34 rfl (by decide) rfl ?_
      obtain ⟨n9, h⟩ := h
      refine r_sub [1, 2, 0] rfl ?_
      refine L_35 l1 _ ?_ n9 0 μ1 h
      intro v6 μ5 h
      refine r_aload_n (pc := 57) C d_M_trace_57 rfl 0 rfl ?_
      refine r_cVi (pc := 58) (a' := 0) (b' := 0) (As := []) (ci := 6) C (c_M_greys C.s h) o_M_greys rfl (lay_O rfl) (k_851 C.w) rfl ⟨by decide, by decide, by decide, by decide⟩ rfl rfl (Nat.le_of_ble_eq_true rfl) d_M_trace_58 rfl ?_
      intro r8 μ7 h
      exact r_iret (pc := 61) C d_M_trace_61 (by decide) (by decide) h
    · intro hc; replace h := h.2 hc
      refine r_iconst (pc := 31) C d_M_trace_31 (v := 0) (by decide) ?_
      exact r_iret (pc := 32) C d_M_trace_32 (by decide) (by decide) h
  unfold wM_trace at h
  refine r_aload_n (pc := 0) C d_M_trace_0 rfl 0 rfl ?_
  refine r_iload_n (pc := 1) C d_M_trace_1 rfl 1 rfl ?_
  refine r_if_ge (tgt := 9) (pc := 2) C d_M_trace_2 (by decide) ?_ ?_
  · intro hc; replace h := h.1 hc
    refine r_aload_n (pc := 9) C d_M_trace_9 rfl 0 rfl ?_
    refine r_getI (pc := 10) (ci := 6) C rfl 27 (by decide) (k_677 C.w) rfl (lay_O rfl) d_M_trace_10 ?_
    refine r_if_eq (tgt := 20) (pc := 13) C d_M_trace_13 (by decide) ?_ ?_
    · intro hc; replace h := h.1 hc
      refine r_iconst (pc := 20) C d_M_trace_20 (v := 2) (by decide) ?_
      exact J_21 a1 2 μ h
    · intro hc; replace h := h.2 hc
      refine r_iconst (pc := 16) C d_M_trace_16 (v := 0) (by decide) ?_
      refine r_goto (tgt := 21) (pc := 17) C d_M_trace_17 (by decide) ?_
      exact J_21 a1 0 μ h
  · intro hc; replace h := h.2 hc
    refine r_iconst (pc := 5) C d_M_trace_5 (v := 1) (by decide) ?_
    refine r_goto (tgt := 21) (pc := 6) C d_M_trace_6 (by decide) ?_
    exact J_21 a1 1 μ h
theorem c_M_pause {l : Launch} (hl : l.stackTraces = false) {G : Gl} {a1 : Int32} {post : Int32 → Mem → Prop} {μ : Mem} (h : wM_pause a1 post μ) : Ct l G i_M_pause [.inr (.inl (some 17)), .inl a1] μ (poI post) noX := by
  refine ct_of hl (by decide) (Nat.le_of_ble_eq_true rfl) ?_
  intro K hKl C hE
  clear hl hKl
  replace C : Cx K G prog_8_method_46_code "LineCollectorModel" 2 { frames := 9, cells := 0, slots := 0, locals := 200 } (some .int) (poI post) noX := C
  show Rn K G 2 0 [(0, .inr (.inl (some 17))), (1, .inl a1)] [] μ 0 0
  unfold wM_pause at h
  refine r_aload_n (pc := 0) C d_M_pause_0 rfl 0 rfl ?_
  refine r_iconst (pc := 1) C d_M_pause_1 (v := 0) (by decide) ?_
  refine r_putI (pc := 2) (ci := 6) C rfl 0 (by decide) (k_650 C.w) rfl rfl p_I (lay_O rfl) d_M_pause_2 ?_
  intro μ1 eμ1; replace h := h μ1 eμ1
  refine r_aload_n (pc := 5) C d_M_pause_5 rfl 0 rfl ?_
  refine r_iload_n (pc := 6) C d_M_pause_6 rfl 1 rfl ?_
  refine r_cVi (pc := 7) (a' := 0) (b' := 0) (As := [.inl a1]) (ci := 6) C (c_M_halt C.s h) o_M_halt rfl (lay_O rfl) (k_787 C.w) rfl ⟨by decide, by decide, by decide, by decide⟩ rfl rfl (Nat.le_of_ble_eq_true rfl) d_M_pause_7 rfl ?_
  intro r3 μ2 h
  exact r_iret (pc := 10) C d_M_pause_10 (by decide) (by decide) h
theorem c_M_root {l : Launch} (hl : l.stackTraces = false) {G : Gl} {a1 : Int32} {post : Int32 → Mem → Prop} {μ : Mem} (h : wM_root a1 post μ) : Ct l G i_M_root [.inr (.inl (some 17)), .inl a1] μ (poI post) noX := by
  refine ct_of hl (by decide) (Nat.le_of_ble_eq_true rfl) ?_
  intro K hKl C hE
  clear hl hKl
  replace C : Cx K G prog_8_method_47_code "LineCollectorModel" 2 { frames := 1, cells := 0, slots := 0, locals := 21 } (some .int) (poI post) noX := C
  show Rn K G 2 0 [(0, .inr (.inl (some 17))), (1, .inl a1)] [] μ 0 0
  have J_13 : ∀ (l1 : Int32) (t1 : Int32) (μ : Mem), wM_root_13 l1 t1 post μ → Rn K G 2 13 [(0, .inr (.inl (some 17))), (1, .inl l1)] [.int t1, rv G (some 17)] μ 0 0 := by
    intro l1 t1 μ h
    unfold wM_root_13 at h
    refine r_putI (pc := 13) (ci := 6) C rfl 0 (by decide) (k_650 C.w) rfl rfl p_I (lay_O rfl) d_M_root_13 ?_
    intro μ3 eμ3; replace h := h μ3 eμ3
    refine r_aload_n (pc := 16) C d_M_root_16 rfl 0 rfl ?_
    refine r_getI (pc := 17) (ci := 6) C rfl 0 (by decide) (k_650 C.w) rfl (lay_O rfl) d_M_root_17 ?_
    refine r_if_le (tgt := 27) (pc := 20) C d_M_root_20 (by decide) ?_ ?_
    · intro hc; replace h := h.1 hc
      refine r_aload_n (pc := 27) C d_M_root_27 rfl 0 rfl ?_
      refine r_aload_n (pc := 28) C d_M_root_28 rfl 0 rfl ?_
      refine r_getR (pc := 29) (ci := 6) C rfl 11 (by decide) (k_661 C.w) rfl (lay_O rfl) d_M_root_29 ?_
      refine r_iload_n (pc := 32) C d_M_root_32 rfl 1 rfl ?_
      obtain ⟨b4, h⟩ := h
      refine r_iald (pc := 33) C (lay_A rfl) b4 d_M_root_33 ?_
      refine r_cVi (pc := 34) (a' := 0) (b' := 0) (As := [.inl (mI μ3 27 (l1).toNatClampNeg)]) (ci := 6) C (c_M_addressOf C.s h) o_M_addressOf rfl (lay_O rfl) (k_903 C.w) rfl ⟨by decide, by decide, by decide, by decide⟩ rfl rfl (Nat.le_of_ble_eq_true rfl) d_M_root_34 rfl ?_
      intro r6 μ5 h
      exact r_iret (pc := 37) C d_M_root_37 (by decide) (by decide) h
    · intro hc; replace h := h.2 hc
      refine r_iconst (pc := 23) C d_M_root_23 (v := 0) (by decide) ?_
      refine r_goto (tgt := 37) (pc := 24) C d_M_root_24 (by decide) ?_
      exact r_iret (pc := 37) C d_M_root_37 (by decide) (by decide) h
  unfold wM_root at h
  refine r_aload_n (pc := 0) C d_M_root_0 rfl 0 rfl ?_
  refine r_iload_n (pc := 1) C d_M_root_1 rfl 1 rfl ?_
  refine r_cSi (pc := 2) (a' := 0) (b' := 0) (As := [.inl a1]) C (c_M_isRoot C.s h) o_M_isRoot (k_752 C.w) rfl ⟨by decide, by decide, by decide, by decide⟩ rfl rfl (Nat.le_of_ble_eq_true rfl) d_M_root_2 rfl ?_
  intro r2 μ1 h
  refine r_if_eq (tgt := 12) (pc := 5) C d_M_root_5 (by decide) ?_ ?_
  · intro hc; replace h := h.1 hc
    refine r_iconst (pc := 12) C d_M_root_12 (v := 1) (by decide) ?_
    exact J_13 a1 1 μ1 h
  · intro hc; replace h := h.2 hc
    refine r_iconst (pc := 8) C d_M_root_8 (v := 0) (by decide) ?_
    refine r_goto (tgt := 13) (pc := 9) C d_M_root_9 (by decide) ?_
    exact J_13 a1 0 μ1 h
theorem c_M_field {l : Launch} (hl : l.stackTraces = false) {G : Gl} {a1 : Int32} {a2 : Int32} {post : Int32 → Mem → Prop} {μ : Mem} (h : wM_field a1 a2 post μ) : Ct l G i_M_field [.inr (.inl (some 17)), .inl a1, .inl a2] μ (poI post) noX := by
  refine ct_of hl (by decide) (Nat.le_of_ble_eq_true rfl) ?_
  intro K hKl C hE
  clear hl hKl
  replace C : Cx K G prog_8_method_48_code "LineCollectorModel" 4 { frames := 1, cells := 0, slots := 0, locals := 21 } (some .int) (poI post) noX := C
  show Rn K G 4 0 [(0, .inr (.inl (some 17))), (1, .inl a1), (2, .inl a2)] [] μ 0 0
  have J_49 : ∀ (l2 : Int32) (l3 : Int32) (μ : Mem), wM_field_49 l2 l3 post μ → Rn K G 4 49 [(0, .inr (.inl (some 17))), (2, .inl l2), (3, .inl l3)] [] μ 0 0 := by
    intro l2 l3 μ h
    unfold wM_field_49 at h
    refine r_aload_n (pc := 49) C d_M_field_49 rfl 0 rfl ?_
    refine r_getI (pc := 50) (ci := 6) C rfl 0 (by decide) (k_650 C.w) rfl (lay_O rfl) d_M_field_50 ?_
    refine r_if_le (tgt := 60) (pc := 53) C d_M_field_53 (by decide) ?_ ?_
    · intro hc; replace h := h.1 hc
      refine r_aload_n (pc := 60) C d_M_field_60 rfl 0 rfl ?_
      refine r_aload_n (pc := 61) C d_M_field_61 rfl 0 rfl ?_
      refine r_getR (pc := 62) (ci := 6) C rfl 8 (by decide) (k_658 C.w) rfl (lay_O rfl) d_M_field_62 ?_
      refine r_bipush (pc := 65) C d_M_field_65 (v := 12) (by decide) ?_
      refine r_iload_n (pc := 67) C d_M_field_67 rfl 2 rfl ?_
      refine r_imul (pc := 68) C d_M_field_68 ?_
      refine r_iload_n (pc := 69) C d_M_field_69 rfl 1 rfl ?_
      refine r_iadd (pc := 70) C d_M_field_70 ?_
      obtain ⟨b4, h⟩ := h
      refine r_iald (pc := 71) C (lay_A rfl) b4 d_M_field_71 ?_
      refine r_cVi (pc := 72) (a' := 0) (b' := 0) (As := [.inl (mI μ 25 ((12 * l3) + l2).toNatClampNeg)]) (ci := 6) C (c_M_addressOf C.s h) o_M_addressOf rfl (lay_O rfl) (k_903 C.w) rfl ⟨by decide, by decide, by decide, by decide⟩ rfl rfl (Nat.le_of_ble_eq_true rfl) d_M_field_72 rfl ?_
      intro r6 μ5 h
      exact r_iret (pc := 75) C d_M_field_75 (by decide) (by decide) h
    · intro hc; replace h := h.2 hc
      refine r_iconst (pc := 56) C d_M_field_56 (v := 0) (by decide) ?_
      refine r_goto (tgt := 75) (pc := 57) C d_M_field_57 (by decide) ?_
      exact r_iret (pc := 75) C d_M_field_75 (by decide) (by decide) h
  have J_46 : ∀ (l2 : Int32) (l3 : Int32) (t1 : Int32) (μ : Mem), wM_field_46 l2 l3 t1 post μ → Rn K G 4 46 [(0, .inr (.inl (some 17))), (2, .inl l2), (3, .inl l3)] [.int t1, rv G (some 17)] μ 0 0 := by
    intro l2 l3 t1 μ h
    unfold wM_field_46 at h
    refine r_putI (pc := 46) (ci := 6) C rfl 0 (by decide) (k_650 C.w) rfl rfl p_I (lay_O rfl) d_M_field_46 ?_
    intro μ7 eμ7; replace h := h μ7 eμ7
    exact J_49 l2 l3 μ7 h
  have J_45 : ∀ (l2 : Int32) (l3 : Int32) (μ : Mem), wM_field_45 l2 l3 post μ → Rn K G 4 45 [(0, .inr (.inl (some 17))), (2, .inl l2), (3, .inl l3)] [rv G (some 17)] μ 0 0 := by
    intro l2 l3 μ h
    unfold wM_field_45 at h
    refine r_iconst (pc := 45) C d_M_field_45 (v := 2) (by decide) ?_
    exact J_46 l2 l3 2 μ h
  have J_16 : ∀ (l2 : Int32) (l3 : Int32) (t1 : Int32) (μ : Mem), wM_field_16 l2 l3 t1 post μ → Rn K G 4 16 [(0, .inr (.inl (some 17))), (2, .inl l2), (3, .inl l3)] [.int t1, rv G (some 17)] μ 0 0 := by
    intro l2 l3 t1 μ h
    unfold wM_field_16 at h
    refine r_putI (pc := 16) (ci := 6) C rfl 0 (by decide) (k_650 C.w) rfl rfl p_I (lay_O rfl) d_M_field_16 ?_
    intro μ3 eμ3; replace h := h μ3 eμ3
    refine r_aload_n (pc := 19) C d_M_field_19 rfl 0 rfl ?_
    refine r_getI (pc := 20) (ci := 6) C rfl 0 (by decide) (k_650 C.w) rfl (lay_O rfl) d_M_field_20 ?_
    refine r_if_ne (tgt := 49) (pc := 23) C d_M_field_23 (by decide) ?_ ?_
    · intro hc; replace h := h.2 hc
      exact J_49 l2 l3 μ3 h
    · intro hc; replace h := h.1 hc
      refine r_aload_n (pc := 26) C d_M_field_26 rfl 0 rfl ?_
      refine r_iload_n (pc := 27) C d_M_field_27 rfl 1 rfl ?_
      refine r_if_lt (tgt := 45) (pc := 28) C d_M_field_28 (by decide) ?_ ?_
      · intro hc; replace h := h.1 hc
        exact J_45 l2 l3 μ3 h
      · intro hc; replace h := h.2 hc
        refine r_iload_n (pc := 31) C d_M_field_31 rfl 1 rfl ?_
        refine r_aload_n (pc := 32) C d_M_field_32 rfl 0 rfl ?_
        refine r_getR (pc := 33) (ci := 6) C rfl 4 (by decide) (k_654 C.w) rfl (lay_O rfl) d_M_field_33 ?_
        refine r_iload_n (pc := 36) C d_M_field_36 rfl 2 rfl ?_
        obtain ⟨b8, h⟩ := h
        refine r_iald (pc := 37) C (lay_A rfl) b8 d_M_field_37 ?_
        refine r_icmp_ge (tgt := 45) (pc := 38) C d_M_field_38 (by decide) ?_ ?_
        · intro hc; replace h := h.1 hc
          exact J_45 l2 l3 μ3 h
        · intro hc; replace h := h.2 hc
          refine r_iconst (pc := 41) C d_M_field_41 (v := 0) (by decide) ?_
          refine r_goto (tgt := 46) (pc := 42) C d_M_field_42 (by decide) ?_
          exact J_46 l2 l3 0 μ3 h
  unfold wM_field at h
  refine r_aload_n (pc := 0) C d_M_field_0 rfl 0 rfl ?_
  refine r_iload_n (pc := 1) C d_M_field_1 rfl 1 rfl ?_
  refine r_cVi (pc := 2) (a' := 0) (b' := 0) (As := [.inl a1]) (ci := 6) C (c_M_objectAt C.s h) o_M_objectAt rfl (lay_O rfl) (k_859 C.w) rfl ⟨by decide, by decide, by decide, by decide⟩ rfl rfl (Nat.le_of_ble_eq_true rfl) d_M_field_2 rfl ?_
  intro r2 μ1 h
  refine r_istore_n (pc := 5) (lv' := [(0, .inr (.inl (some 17))), (1, .inl a1), (2, .inl a2)]) C d_M_field_5 rfl (by decide) rfl ?_
  refine r_aload_n (pc := 6) C d_M_field_6 rfl 1 rfl ?_
  refine r_iload_n (pc := 7) C d_M_field_7 rfl 0 rfl ?_
  refine r_if_ge (tgt := 15) (pc := 8) C d_M_field_8 (by decide) ?_ ?_
  · intro hc; replace h := h.1 hc
    refine r_iconst (pc := 15) C d_M_field_15 (v := 0) (by decide) ?_
    refine r_sub [1, 3, 0] rfl ?_
    exact J_16 a2 r2 0 μ1 h
  · intro hc; replace h := h.2 hc
    refine r_iconst (pc := 11) C d_M_field_11 (v := 1) (by decide) ?_
    refine r_goto (tgt := 16) (pc := 12) C d_M_field_12 (by decide) ?_
    refine r_sub [1, 3, 0] rfl ?_
    exact J_16 a2 r2 1 μ1 h
theorem c_M_object {l : Launch} (hl : l.stackTraces = false) {G : Gl} {a1 : Int32} {a2 : Int32} {post : Int32 → Mem → Prop} {μ : Mem} (h : wM_object a1 a2 post μ) : Ct l G i_M_object [.inr (.inl (some 17)), .inl a1, .inl a2] μ (poI post) noX := by
  refine ct_of hl (by decide) (Nat.le_of_ble_eq_true rfl) ?_
  intro K hKl C hE
  clear hl hKl
  replace C : Cx K G prog_8_method_49_code "LineCollectorModel" 4 { frames := 1, cells := 0, slots := 0, locals := 21 } (some .int) (poI post) noX := C
  show Rn K G 4 0 [(0, .inr (.inl (some 17))), (1, .inl a1), (2, .inl a2)] [] μ 0 0
  have J_29 : ∀ (l2 : Int32) (l3 : Int32) (t1 : Int32) (μ : Mem), wM_object_29 l2 l3 t1 post μ → Rn K G 4 29 [(0, .inr (.inl (some 17))), (2, .inl l2), (3, .inl l3)] [.int t1, rv G (some 17)] μ 0 0 := by
    intro l2 l3 t1 μ h
    unfold wM_object_29 at h
    refine r_putI (pc := 29) (ci := 6) C rfl 0 (by decide) (k_650 C.w) rfl rfl p_I (lay_O rfl) d_M_object_29 ?_
    intro μ3 eμ3; replace h := h μ3 eμ3
    refine r_aload_n (pc := 32) C d_M_object_32 rfl 0 rfl ?_
    refine r_getI (pc := 33) (ci := 6) C rfl 0 (by decide) (k_650 C.w) rfl (lay_O rfl) d_M_object_33 ?_
    refine r_if_le (tgt := 41) (pc := 36) C d_M_object_36 (by decide) ?_ ?_
    · intro hc; replace h := h.1 hc
      refine r_iload_n (pc := 41) C d_M_object_41 rfl 1 rfl ?_
      refine r_if_ne (tgt := 54) (pc := 42) C d_M_object_42 (by decide) ?_ ?_
      · intro hc; replace h := h.2 hc
        refine r_iload_n (pc := 54) C d_M_object_54 rfl 1 rfl ?_
        refine r_iconst (pc := 55) C d_M_object_55 (v := 1) (by decide) ?_
        refine r_icmp_ne (tgt := 68) (pc := 56) C d_M_object_56 (by decide) ?_ ?_
        · intro hc; replace h := h.2 hc
          refine r_iload_n (pc := 68) C d_M_object_68 rfl 1 rfl ?_
          refine r_iconst (pc := 69) C d_M_object_69 (v := 2) (by decide) ?_
          refine r_icmp_ne (tgt := 82) (pc := 70) C d_M_object_70 (by decide) ?_ ?_
          · intro hc; replace h := h.2 hc
            refine r_aload_n (pc := 82) C d_M_object_82 rfl 0 rfl ?_
            refine r_getR (pc := 83) (ci := 6) C rfl 7 (by decide) (k_657 C.w) rfl (lay_O rfl) d_M_object_83 ?_
            refine r_iload_n (pc := 86) C d_M_object_86 rfl 2 rfl ?_
            obtain ⟨b4, h⟩ := h
            refine r_iald (pc := 87) C (lay_A rfl) b4 d_M_object_87 ?_
            exact r_iret (pc := 88) C d_M_object_88 (by decide) (by decide) h
          · intro hc; replace h := h.1 hc
            refine r_aload_n (pc := 73) C d_M_object_73 rfl 0 rfl ?_
            refine r_getR (pc := 74) (ci := 6) C rfl 6 (by decide) (k_656 C.w) rfl (lay_O rfl) d_M_object_74 ?_
            refine r_iload_n (pc := 77) C d_M_object_77 rfl 2 rfl ?_
            obtain ⟨b5, h⟩ := h
            refine r_iald (pc := 78) C (lay_A rfl) b5 d_M_object_78 ?_
            refine r_goto (tgt := 88) (pc := 79) C d_M_object_79 (by decide) ?_
            exact r_iret (pc := 88) C d_M_object_88 (by decide) (by decide) h
        · intro hc; replace h := h.1 hc
          refine r_aload_n (pc := 59) C d_M_object_59 rfl 0 rfl ?_
          refine r_getR (pc := 60) (ci := 6) C rfl 5 (by decide) (k_655 C.w) rfl (lay_O rfl) d_M_object_60 ?_
          refine r_iload_n (pc := 63) C d_M_object_63 rfl 2 rfl ?_
          obtain ⟨b6, h⟩ := h
          refine r_iald (pc := 64) C (lay_A rfl) b6 d_M_object_64 ?_
          refine r_goto (tgt := 88) (pc := 65) C d_M_object_65 (by decide) ?_
          exact r_iret (pc := 88) C d_M_object_88 (by decide) (by decide) h
      · intro hc; replace h := h.1 hc
        refine r_aload_n (pc := 45) C d_M_object_45 rfl 0 rfl ?_
        refine r_getR (pc := 46) (ci := 6) C rfl 4 (by decide) (k_654 C.w) rfl (lay_O rfl) d_M_object_46 ?_
        refine r_iload_n (pc := 49) C d_M_object_49 rfl 2 rfl ?_
        obtain ⟨b7, h⟩ := h
        refine r_iald (pc := 50) C (lay_A rfl) b7 d_M_object_50 ?_
        refine r_goto (tgt := 88) (pc := 51) C d_M_object_51 (by decide) ?_
        exact r_iret (pc := 88) C d_M_object_88 (by decide) (by decide) h
    · intro hc; replace h := h.2 hc
      refine r_iconst (pc := 39) C d_M_object_39 (v := 0) (by decide) ?_
      exact r_iret (pc := 40) C d_M_object_40 (by decide) (by decide) h
  have J_16 : ∀ (l2 : Int32) (l3 : Int32) (μ : Mem), wM_object_16 l2 l3 post μ → Rn K G 4 16 [(0, .inr (.inl (some 17))), (2, .inl l2), (3, .inl l3)] [rv G (some 17)] μ 0 0 := by
    intro l2 l3 μ h
    unfold wM_object_16 at h
    refine r_iconst (pc := 16) C d_M_object_16 (v := 1) (by decide) ?_
    refine r_goto (tgt := 29) (pc := 17) C d_M_object_17 (by decide) ?_
    exact J_29 l2 l3 1 μ h
  unfold wM_object at h
  refine r_aload_n (pc := 0) C d_M_object_0 rfl 0 rfl ?_
  refine r_iload_n (pc := 1) C d_M_object_1 rfl 1 rfl ?_
  refine r_cVi (pc := 2) (a' := 0) (b' := 0) (As := [.inl a1]) (ci := 6) C (c_M_objectAt C.s h) o_M_objectAt rfl (lay_O rfl) (k_859 C.w) rfl ⟨by decide, by decide, by decide, by decide⟩ rfl rfl (Nat.le_of_ble_eq_true rfl) d_M_object_2 rfl ?_
  intro r2 μ1 h
  refine r_istore_n (pc := 5) (lv' := [(0, .inr (.inl (some 17))), (1, .inl a1), (2, .inl a2)]) C d_M_object_5 rfl (by decide) rfl ?_
  refine r_aload_n (pc := 6) C d_M_object_6 rfl 1 rfl ?_
  refine r_iload_n (pc := 7) C d_M_object_7 rfl 3 rfl ?_
  refine r_if_lt (tgt := 16) (pc := 8) C d_M_object_8 (by decide) ?_ ?_
  · intro hc; replace h := h.1 hc
    refine r_sub [1, 3, 0] rfl ?_
    exact J_16 a2 r2 μ1 h
  · intro hc; replace h := h.2 hc
    refine r_iload_n (pc := 11) C d_M_object_11 rfl 3 rfl ?_
    refine r_iconst (pc := 12) C d_M_object_12 (v := 3) (by decide) ?_
    refine r_icmp_le (tgt := 20) (pc := 13) C d_M_object_13 (by decide) ?_ ?_
    · intro hc; replace h := h.1 hc
      refine r_iload_n (pc := 20) C d_M_object_20 rfl 0 rfl ?_
      refine r_if_ge (tgt := 28) (pc := 21) C d_M_object_21 (by decide) ?_ ?_
      · intro hc; replace h := h.1 hc
        refine r_iconst (pc := 28) C d_M_object_28 (v := 0) (by decide) ?_
        refine r_sub [1, 3, 0] rfl ?_
        exact J_29 a2 r2 0 μ1 h
      · intro hc; replace h := h.2 hc
        refine r_iconst (pc := 24) C d_M_object_24 (v := 2) (by decide) ?_
        refine r_goto (tgt := 29) (pc := 25) C d_M_object_25 (by decide) ?_
        refine r_sub [1, 3, 0] rfl ?_
        exact J_29 a2 r2 2 μ1 h
    · intro hc; replace h := h.2 hc
      refine r_sub [1, 3, 0] rfl ?_
      exact J_16 a2 r2 μ1 h
theorem c_M_line {l : Launch} (hl : l.stackTraces = false) {G : Gl} {a1 : Int32} {post : Int32 → Mem → Prop} {μ : Mem} (h : wM_line a1 post μ) : Ct l G i_M_line [.inr (.inl (some 17)), .inl a1] μ (poI post) noX := by
  refine ct_of hl (by decide) (Nat.le_of_ble_eq_true rfl) ?_
  intro K hKl C hE
  clear hl hKl
  replace C : Cx K G prog_8_method_50_code "LineCollectorModel" 2 { frames := 1, cells := 0, slots := 0, locals := 23 } (some .int) (poI post) noX := C
  show Rn K G 2 0 [(0, .inr (.inl (some 17))), (1, .inl a1)] [] μ 0 0
  have J_16 : ∀ (l1 : Int32) (t1 : Int32) (μ : Mem), wM_line_16 l1 t1 post μ → Rn K G 2 16 [(0, .inr (.inl (some 17))), (1, .inl l1)] [.int t1, rv G (some 17)] μ 0 0 := by
    intro l1 t1 μ h
    unfold wM_line_16 at h
    refine r_putI (pc := 16) (ci := 6) C rfl 0 (by decide) (k_650 C.w) rfl rfl p_I (lay_O rfl) d_M_line_16 ?_
    intro μ1 eμ1; replace h := h μ1 eμ1
    refine r_aload_n (pc := 19) C d_M_line_19 rfl 0 rfl ?_
    refine r_getI (pc := 20) (ci := 6) C rfl 0 (by decide) (k_650 C.w) rfl (lay_O rfl) d_M_line_20 ?_
    refine r_if_le (tgt := 30) (pc := 23) C d_M_line_23 (by decide) ?_ ?_
    · intro hc; replace h := h.1 hc
      refine r_aload_n (pc := 30) C d_M_line_30 rfl 0 rfl ?_
      refine r_iload_n (pc := 31) C d_M_line_31 rfl 1 rfl ?_
      refine r_cVi (pc := 32) (a' := 0) (b' := 0) (As := [.inl l1]) (ci := 6) C (c_M_isUsed C.s h) o_M_isUsed rfl (lay_O rfl) (k_767 C.w) rfl ⟨by decide, by decide, by decide, by decide⟩ rfl rfl (Nat.le_of_ble_eq_true rfl) d_M_line_32 rfl ?_
      intro r3 μ2 h
      refine r_if_eq (tgt := 42) (pc := 35) C d_M_line_35 (by decide) ?_ ?_
      · intro hc; replace h := h.1 hc
        refine r_aload_n (pc := 42) C d_M_line_42 rfl 0 rfl ?_
        refine r_iload_n (pc := 43) C d_M_line_43 rfl 1 rfl ?_
        refine r_cVi (pc := 44) (a' := 0) (b' := 0) (As := [.inl l1]) (ci := 6) C (c_M_isTaken C.s h) o_M_isTaken rfl (lay_O rfl) (k_771 C.w) rfl ⟨by decide, by decide, by decide, by decide⟩ rfl rfl (Nat.le_of_ble_eq_true rfl) d_M_line_44 rfl ?_
        intro r5 μ4 h
        refine r_if_eq (tgt := 54) (pc := 47) C d_M_line_47 (by decide) ?_ ?_
        · intro hc; replace h := h.1 hc
          refine r_iconst (pc := 54) C d_M_line_54 (v := 0) (by decide) ?_
          exact r_iret (pc := 55) C d_M_line_55 (by decide) (by decide) h
        · intro hc; replace h := h.2 hc
          refine r_iconst (pc := 50) C d_M_line_50 (v := 2) (by decide) ?_
          refine r_goto (tgt := 55) (pc := 51) C d_M_line_51 (by decide) ?_
          exact r_iret (pc := 55) C d_M_line_55 (by decide) (by decide) h
      · intro hc; replace h := h.2 hc
        refine r_iconst (pc := 38) C d_M_line_38 (v := 1) (by decide) ?_
        refine r_goto (tgt := 55) (pc := 39) C d_M_line_39 (by decide) ?_
        exact r_iret (pc := 55) C d_M_line_55 (by decide) (by decide) h
    · intro hc; replace h := h.2 hc
      refine r_iconst (pc := 26) C d_M_line_26 (v := 0) (by decide) ?_
      refine r_goto (tgt := 55) (pc := 27) C d_M_line_27 (by decide) ?_
      exact r_iret (pc := 55) C d_M_line_55 (by decide) (by decide) h
  have J_15 : ∀ (l1 : Int32) (μ : Mem), wM_line_15 l1 post μ → Rn K G 2 15 [(0, .inr (.inl (some 17))), (1, .inl l1)] [rv G (some 17)] μ 0 0 := by
    intro l1 μ h
    unfold wM_line_15 at h
    refine r_iconst (pc := 15) C d_M_line_15 (v := 1) (by decide) ?_
    exact J_16 l1 1 μ h
  unfold wM_line at h
  refine r_aload_n (pc := 0) C d_M_line_0 rfl 0 rfl ?_
  refine r_iload_n (pc := 1) C d_M_line_1 rfl 1 rfl ?_
  refine r_if_lt (tgt := 15) (pc := 2) C d_M_line_2 (by decide) ?_ ?_
  · intro hc; replace h := h.1 hc
    exact J_15 a1 μ h
  · intro hc; replace h := h.2 hc
    refine r_iload_n (pc := 5) C d_M_line_5 rfl 1 rfl ?_
    refine r_bipush (pc := 6) C d_M_line_6 (v := 32) (by decide) ?_
    refine r_icmp_ge (tgt := 15) (pc := 8) C d_M_line_8 (by decide) ?_ ?_
    · intro hc; replace h := h.1 hc
      exact J_15 a1 μ h
    · intro hc; replace h := h.2 hc
      refine r_iconst (pc := 11) C d_M_line_11 (v := 0) (by decide) ?_
      refine r_goto (tgt := 16) (pc := 12) C d_M_line_12 (by decide) ?_
      exact J_16 a1 0 μ h
theorem c_M_objects {l : Launch} (hl : l.stackTraces = false) {G : Gl} {a1 : Int32} {post : Int32 → Mem → Prop} {μ : Mem} (h : wM_objects a1 post μ) : Ct l G i_M_objects [.inr (.inl (some 17)), .inl a1] μ (poI post) noX := by
  refine ct_of hl (by decide) (Nat.le_of_ble_eq_true rfl) ?_
  intro K hKl C hE
  clear hl hKl
  replace C : Cx K G prog_8_method_51_code "LineCollectorModel" 4 { frames := 0, cells := 0, slots := 0, locals := 0 } (some .int) (poI post) noX := C
  show Rn K G 4 0 [(0, .inr (.inl (some 17))), (1, .inl a1)] [] μ 0 0
  have L_4 : ∀ (l1 : Int32) (k : Int32 → Int32 → Mem → Prop), (∀ (v2 : Int32) (v3 : Int32) (μ : Mem), k v2 v3 μ → Rn K G 4 45 [(2, .inl v2)] [] μ 0 0) → ∀ (n : Nat) (l2 : Int32) (l3 : Int32) (μ : Mem), wM_objects_4 l1 k n l2 l3 μ → Rn K G 4 4 [(0, .inr (.inl (some 17))), (1, .inl l1), (2, .inl l2), (3, .inl l3)] [] μ 0 0 := by
    intro l1 k hk n
    induction n with
    | zero => intro l2 l3 μ h; exact h.elim
    | succ n ih =>
      intro l2 l3 μ h
      unfold wM_objects_4 at h
      refine r_iload_n (pc := 4) C d_M_objects_4 rfl 3 rfl ?_
      refine r_sipush (pc := 5) C d_M_objects_5 (v := 256) (by decide) ?_
      refine r_icmp_ge (tgt := 45) (pc := 8) C d_M_objects_8 (by decide) ?_ ?_
      · intro hc; replace h := h.1 hc
        refine r_sub [2] rfl ?_
        exact hk l2 l3 μ h
      · intro hc; replace h := h.2 hc
        refine r_aload_n (pc := 11) C d_M_objects_11 rfl 0 rfl ?_
        refine r_getR (pc := 12) (ci := 6) C rfl 2 (by decide) (k_652 C.w) rfl (lay_O rfl) d_M_objects_12 ?_
        refine r_iload_n (pc := 15) C d_M_objects_15 rfl 3 rfl ?_
        obtain ⟨b1, h⟩ := h
        refine r_iald (pc := 16) C (lay_A rfl) b1 d_M_objects_16 ?_
        refine r_iconst (pc := 17) C d_M_objects_17 (v := 1) (by decide) ?_
        refine r_icmp_eq (tgt := 31) (pc := 18) C d_M_objects_18 (by decide) ?_ ?_
        · intro hc; replace h := h.1 hc
          refine r_iload_n (pc := 31) C d_M_objects_31 rfl 2 rfl ?_
          refine r_iconst (pc := 32) C d_M_objects_32 (v := 1) (by decide) ?_
          refine r_iadd (pc := 33) C d_M_objects_33 ?_
          refine r_goto (tgt := 38) (pc := 34) C d_M_objects_34 (by decide) ?_
          refine r_istore_n (pc := 38) (lv' := [(0, .inr (.inl (some 17))), (1, .inl l1), (3, .inl l3)]) C d_M_objects_38 rfl (by decide) rfl ?_
          refine r_iinc (pc := 39) (v := 1) (lv' := [(2, .inl (l2 + 1)), (0, .inr (.inl (some 17))), (1, .inl l1)]) C d_M_objects_39 3 rfl (by decide) (by decide) rfl ?_
          refine r_goto (tgt := 4) (pc := 42) C d_M_objects_42 (by decide) ?_
          refine r_sub [2, 3, 1, 0] rfl ?_
          exact ih (l2 + 1) (l3 + 1) μ h
        · intro hc; replace h := h.2 hc
          refine r_aload_n (pc := 21) C d_M_objects_21 rfl 0 rfl ?_
          refine r_getR (pc := 22) (ci := 6) C rfl 2 (by decide) (k_652 C.w) rfl (lay_O rfl) d_M_objects_22 ?_
          refine r_iload_n (pc := 25) C d_M_objects_25 rfl 3 rfl ?_
          refine r_iald (pc := 26) C (lay_A rfl) b1 d_M_objects_26 ?_
          refine r_iload_n (pc := 27) C d_M_objects_27 rfl 1 rfl ?_
          refine r_icmp_le (tgt := 37) (pc := 28) C d_M_objects_28 (by decide) ?_ ?_
          · intro hc; replace h := h.1 hc
            refine r_iload_n (pc := 37) C d_M_objects_37 rfl 2 rfl ?_
            refine r_istore_n (pc := 38) (lv' := [(0, .inr (.inl (some 17))), (1, .inl l1), (3, .inl l3)]) C d_M_objects_38 rfl (by decide) rfl ?_
            refine r_iinc (pc := 39) (v := 1) (lv' := [(2, .inl l2), (0, .inr (.inl (some 17))), (1, .inl l1)]) C d_M_objects_39 3 rfl (by decide) (by decide) rfl ?_
            refine r_goto (tgt := 4) (pc := 42) C d_M_objects_42 (by decide) ?_
            refine r_sub [2, 3, 1, 0] rfl ?_
            exact ih l2 (l3 + 1) μ h
          · intro hc; replace h := h.2 hc
            refine r_iload_n (pc := 31) C d_M_objects_31 rfl 2 rfl ?_
            refine r_iconst (pc := 32) C d_M_objects_32 (v := 1) (by decide) ?_
            refine r_iadd (pc := 33) C d_M_objects_33 ?_
            refine r_goto (tgt := 38) (pc := 34) C d_M_objects_34 (by decide) ?_
            refine r_istore_n (pc := 38) (lv' := [(0, .inr (.inl (some 17))), (1, .inl l1), (3, .inl l3)]) C d_M_objects_38 rfl (by decide) rfl ?_
            refine r_iinc (pc := 39) (v := 1) (lv' := [(2, .inl (l2 + 1)), (0, .inr (.inl (some 17))), (1, .inl l1)]) C d_M_objects_39 3 rfl (by decide) (by decide) rfl ?_
            refine r_goto (tgt := 4) (pc := 42) C d_M_objects_42 (by decide) ?_
            refine r_sub [2, 3, 1, 0] rfl ?_
            exact ih (l2 + 1) (l3 + 1) μ h
  unfold wM_objects at h
  refine r_iconst (pc := 0) C d_M_objects_0 (v := 0) (by decide) ?_
  refine r_istore_n (pc := 1) (lv' := [(0, .inr (.inl (some 17))), (1, .inl a1)]) C d_M_objects_1 rfl (by decide) rfl ?_
  refine r_iconst (pc := 2) C d_M_objects_2 (v := 0) (by decide) ?_
  refine r_istore_n (pc := 3) (lv' := [(2, .inl 0), (0, .inr (.inl (some 17))), (1, .inl a1)]) C d_M_objects_3 rfl (by decide) rfl ?_
  obtain ⟨n5, h⟩ := h
  refine r_sub [2, 3, 1, 0] rfl ?_
  refine L_4 a1 _ ?_ n5 0 0 μ h
  intro v3 v4 μ2 h
  refine r_iload_n (pc := 45) C d_M_objects_45 rfl 0 rfl ?_
  exact r_iret (pc := 46) C d_M_objects_46 (by decide) (by decide) h
theorem c_M_figure {l : Launch} (hl : l.stackTraces = false) {G : Gl} {a1 : Int32} {post : Int32 → Mem → Prop} {μ : Mem} (h : wM_figure a1 post μ) : Ct l G i_M_figure [.inr (.inl (some 17)), .inl a1] μ (poI post) noX := by
  refine ct_of hl (by decide) (Nat.le_of_ble_eq_true rfl) ?_
  intro K hKl C hE
  clear hl hKl
  replace C : Cx K G prog_8_method_52_code "LineCollectorModel" 2 { frames := 1, cells := 0, slots := 0, locals := 23 } (some .int) (poI post) noX := C
  show Rn K G 2 0 [(0, .inr (.inl (some 17))), (1, .inl a1)] [] μ 0 0
  have J_16 : ∀ (l1 : Int32) (t1 : Int32) (μ : Mem), wM_figure_16 l1 t1 post μ → Rn K G 2 16 [(0, .inr (.inl (some 17))), (1, .inl l1)] [.int t1, rv G (some 17)] μ 0 0 := by
    intro l1 t1 μ h
    unfold wM_figure_16 at h
    refine r_putI (pc := 16) (ci := 6) C rfl 0 (by decide) (k_650 C.w) rfl rfl p_I (lay_O rfl) d_M_figure_16 ?_
    intro μ1 eμ1; replace h := h μ1 eμ1
    refine r_iload_n (pc := 19) C d_M_figure_19 rfl 1 rfl ?_
    by_cases hs0 : l1 = 0
    · replace h := h.1 hs0
      refine r_tin (tgt := 72) (pc := 20) C d_M_figure_20 hs0 (by decide) (by decide) (by rfl) (by decide) ?_
      refine r_aload_n (pc := 72) C d_M_figure_72 rfl 0 rfl ?_
      refine r_iconst (pc := 73) C d_M_figure_73 (v := 1) (by decide) ?_
      refine r_cVi (pc := 74) (a' := 0) (b' := 0) (As := [.inl 1]) (ci := 6) C (c_M_objects C.s h) o_M_objects rfl (lay_O rfl) (k_943 C.w) rfl ⟨by decide, by decide, by decide, by decide⟩ rfl rfl (Nat.le_of_ble_eq_true rfl) d_M_figure_74 rfl ?_
      intro r3 μ2 h
      exact r_iret (pc := 77) C d_M_figure_77 (by decide) (by decide) h
    by_cases hs1 : l1 = 1
    · replace h := h.2.1 hs1
      refine r_tin (tgt := 78) (pc := 20) C d_M_figure_20 hs1 (by decide) (by decide) (by rfl) (by decide) ?_
      refine r_aload_n (pc := 78) C d_M_figure_78 rfl 0 rfl ?_
      refine r_iconst (pc := 79) C d_M_figure_79 (v := 2) (by decide) ?_
      refine r_cVi (pc := 80) (a' := 0) (b' := 0) (As := [.inl 2]) (ci := 6) C (c_M_objects C.s h) o_M_objects rfl (lay_O rfl) (k_943 C.w) rfl ⟨by decide, by decide, by decide, by decide⟩ rfl rfl (Nat.le_of_ble_eq_true rfl) d_M_figure_80 rfl ?_
      intro r5 μ4 h
      exact r_iret (pc := 83) C d_M_figure_83 (by decide) (by decide) h
    by_cases hs2 : l1 = 2
    · replace h := h.2.2.1 hs2
      refine r_tin (tgt := 84) (pc := 20) C d_M_figure_20 hs2 (by decide) (by decide) (by rfl) (by decide) ?_
      refine r_aload_n (pc := 84) C d_M_figure_84 rfl 0 rfl ?_
      refine r_getI (pc := 85) (ci := 6) C rfl 21 (by decide) (k_671 C.w) rfl (lay_O rfl) d_M_figure_85 ?_
      exact r_iret (pc := 88) C d_M_figure_88 (by decide) (by decide) h
    by_cases hs3 : l1 = 3
    · replace h := h.2.2.2.1 hs3
      refine r_tin (tgt := 89) (pc := 20) C d_M_figure_20 hs3 (by decide) (by decide) (by rfl) (by decide) ?_
      refine r_aload_n (pc := 89) C d_M_figure_89 rfl 0 rfl ?_
      refine r_getI (pc := 90) (ci := 6) C rfl 24 (by decide) (k_674 C.w) rfl (lay_O rfl) d_M_figure_90 ?_
      exact r_iret (pc := 93) C d_M_figure_93 (by decide) (by decide) h
    by_cases hs4 : l1 = 4
    · replace h := h.2.2.2.2.1 hs4
      refine r_tin (tgt := 94) (pc := 20) C d_M_figure_20 hs4 (by decide) (by decide) (by rfl) (by decide) ?_
      refine r_aload_n (pc := 94) C d_M_figure_94 rfl 0 rfl ?_
      refine r_getI (pc := 95) (ci := 6) C rfl 28 (by decide) (k_678 C.w) rfl (lay_O rfl) d_M_figure_95 ?_
      exact r_iret (pc := 98) C d_M_figure_98 (by decide) (by decide) h
    by_cases hs5 : l1 = 5
    · replace h := h.2.2.2.2.2.1 hs5
      refine r_tin (tgt := 99) (pc := 20) C d_M_figure_20 hs5 (by decide) (by decide) (by rfl) (by decide) ?_
      refine r_aload_n (pc := 99) C d_M_figure_99 rfl 0 rfl ?_
      refine r_getI (pc := 100) (ci := 6) C rfl 27 (by decide) (k_677 C.w) rfl (lay_O rfl) d_M_figure_100 ?_
      refine r_if_eq (tgt := 110) (pc := 103) C d_M_figure_103 (by decide) ?_ ?_
      · intro hc; replace h := h.1 hc
        refine r_iconst (pc := 110) C d_M_figure_110 (v := 0) (by decide) ?_
        exact r_iret (pc := 111) C d_M_figure_111 (by decide) (by decide) h
      · intro hc; replace h := h.2 hc
        refine r_iconst (pc := 106) C d_M_figure_106 (v := 1) (by decide) ?_
        refine r_goto (tgt := 111) (pc := 107) C d_M_figure_107 (by decide) ?_
        exact r_iret (pc := 111) C d_M_figure_111 (by decide) (by decide) h
    by_cases hs6 : l1 = 6
    · replace h := h.2.2.2.2.2.2.1 hs6
      refine r_tin (tgt := 112) (pc := 20) C d_M_figure_20 hs6 (by decide) (by decide) (by rfl) (by decide) ?_
      refine r_aload_n (pc := 112) C d_M_figure_112 rfl 0 rfl ?_
      refine r_getI (pc := 113) (ci := 6) C rfl 29 (by decide) (k_679 C.w) rfl (lay_O rfl) d_M_figure_113 ?_
      exact r_iret (pc := 116) C d_M_figure_116 (by decide) (by decide) h
    by_cases hs7 : l1 = 7
    · replace h := h.2.2.2.2.2.2.2.1 hs7
      refine r_tin (tgt := 117) (pc := 20) C d_M_figure_20 hs7 (by decide) (by decide) (by rfl) (by decide) ?_
      refine r_aload_n (pc := 117) C d_M_figure_117 rfl 0 rfl ?_
      refine r_getI (pc := 118) (ci := 6) C rfl 30 (by decide) (k_680 C.w) rfl (lay_O rfl) d_M_figure_118 ?_
      exact r_iret (pc := 121) C d_M_figure_121 (by decide) (by decide) h
    by_cases hs8 : l1 = 8
    · replace h := h.2.2.2.2.2.2.2.2.1 hs8
      refine r_tin (tgt := 122) (pc := 20) C d_M_figure_20 hs8 (by decide) (by decide) (by rfl) (by decide) ?_
      refine r_aload_n (pc := 122) C d_M_figure_122 rfl 0 rfl ?_
      refine r_cVi (pc := 123) (a' := 0) (b' := 0) (As := []) (ci := 6) C (c_M_greys C.s h) o_M_greys rfl (lay_O rfl) (k_851 C.w) rfl ⟨by decide, by decide, by decide, by decide⟩ rfl rfl (Nat.le_of_ble_eq_true rfl) d_M_figure_123 rfl ?_
      intro r7 μ6 h
      exact r_iret (pc := 126) C d_M_figure_126 (by decide) (by decide) h
    replace h := h.2.2.2.2.2.2.2.2.2 hs0 hs1 hs2 hs3 hs4 hs5 hs6 hs7 hs8
    refine r_tout (tgt := 127) (N := 8) (pc := 20) C d_M_figure_20 (by decide) (fun n hn => ?_) (by decide) ?_
    · match n, hn with
      | 0, _ => exact hs0
      | 1, _ => exact hs1
      | 2, _ => exact hs2
      | 3, _ => exact hs3
      | 4, _ => exact hs4
      | 5, _ => exact hs5
      | 6, _ => exact hs6
      | 7, _ => exact hs7
      | 8, _ => exact hs8
      | n + 9, hn => exact absurd hn (by omega)
    refine r_iconst (pc := 127) C d_M_figure_127 (v := 0) (by decide) ?_
    exact r_iret (pc := 128) C d_M_figure_128 (by decide) (by decide) h
  have J_15 : ∀ (l1 : Int32) (μ : Mem), wM_figure_15 l1 post μ → Rn K G 2 15 [(0, .inr (.inl (some 17))), (1, .inl l1)] [rv G (some 17)] μ 0 0 := by
    intro l1 μ h
    unfold wM_figure_15 at h
    refine r_iconst (pc := 15) C d_M_figure_15 (v := 1) (by decide) ?_
    exact J_16 l1 1 μ h
  unfold wM_figure at h
  refine r_aload_n (pc := 0) C d_M_figure_0 rfl 0 rfl ?_
  refine r_iload_n (pc := 1) C d_M_figure_1 rfl 1 rfl ?_
  refine r_if_lt (tgt := 15) (pc := 2) C d_M_figure_2 (by decide) ?_ ?_
  · intro hc; replace h := h.1 hc
    exact J_15 a1 μ h
  · intro hc; replace h := h.2 hc
    refine r_iload_n (pc := 5) C d_M_figure_5 rfl 1 rfl ?_
    refine r_bipush (pc := 6) C d_M_figure_6 (v := 8) (by decide) ?_
    refine r_icmp_gt (tgt := 15) (pc := 8) C d_M_figure_8 (by decide) ?_ ?_
    · intro hc; replace h := h.1 hc
      exact J_15 a1 μ h
    · intro hc; replace h := h.2 hc
      refine r_iconst (pc := 11) C d_M_figure_11 (v := 0) (by decide) ?_
      refine r_goto (tgt := 16) (pc := 12) C d_M_figure_12 (by decide) ?_
      exact J_16 a1 0 μ h
theorem c_L_drop {l : Launch} (hl : l.stackTraces = false) {G : Gl} {a2 : Int32} {post : Int32 → Mem → Prop} {μ : Mem} (h : wL_drop a2 post μ) : CtW l G i_L_drop h_L_drop [.inr (.inl (some 0)), .inl a2] μ (poI post) noX := by
  refine ctw_of hl (by decide) (Nat.le_of_ble_eq_true rfl) ?_
  intro K hKl C hE
  clear hl hKl
  replace C : Cx K G method_4_code "LineCollectorLaw" 3 { frames := 7, cells := 1, slots := 6, locals := 102 } (some .int) (poI post) noX := C
  show Rn K G 3 0 [(0, .inr (.inl (some 0))), (1, .inl a2)] [] μ 0 0
  unfold wL_drop at h
  refine r_aload_n (pc := 0) C d_L_drop_0 rfl 0 rfl ?_
  refine r_iload_n (pc := 1) C d_L_drop_1 rfl 1 rfl ?_
  refine r_cVcv (pc := 2) (a' := 1) (b' := 6) (As := [.inl a2]) (ci := 0) C hE (c_C_drop C.s h) o_C_drop rfl (lay_O rfl) (k_493 C.w) rfl ⟨by decide, by decide, by decide, by decide⟩ rfl rfl (Nat.le_of_ble_eq_true rfl) d_L_drop_2 rfl ?_ ?_
  · intro μ1 h
    refine r_goto (tgt := 11) (pc := 5) C d_L_drop_5 (by decide) ?_
    refine r_iconst (pc := 11) C d_L_drop_11 (v := 0) (by decide) ?_
    exact r_iret (pc := 12) C d_L_drop_12 (by decide) (by decide) h
  · intro q2 μ3 h
    by_cases hq0 : q2 = 7
    · subst hq0; replace h := h.1 rfl
      refine ⟨"java/lang/IllegalArgumentException", 8, rfl, ⟨⟨by decide, by decide, by decide⟩, _, k_349 C.w, Or.inl ⟨k_360 C.w, rfl⟩⟩, fun z4 => ?_⟩
      refine r_astore_n (pc := 8) (lv' := [(0, .inr (.inl (some 0))), (1, .inl a2)]) C d_L_drop_8 rfl (by decide) rfl ?_
      refine r_iconst (pc := 9) C d_L_drop_9 (v := 1) (by decide) ?_
      exact r_iret (pc := 10) C d_L_drop_10 (by decide) (by decide) h
    exact (h.2 hq0).elim
theorem c_L_copy {l : Launch} (hl : l.stackTraces = false) {G : Gl} {a2 : Int32} {a3 : Int32} {post : Int32 → Mem → Prop} {μ : Mem} (h : wL_copy a2 a3 post μ) : CtW l G i_L_copy h_L_copy [.inr (.inl (some 0)), .inl a2, .inl a3] μ (poI post) noX := by
  refine ctw_of hl (by decide) (Nat.le_of_ble_eq_true rfl) ?_
  intro K hKl C hE
  clear hl hKl
  replace C : Cx K G method_5_code "LineCollectorLaw" 4 { frames := 7, cells := 1, slots := 6, locals := 103 } (some .int) (poI post) noX := C
  show Rn K G 4 0 [(0, .inr (.inl (some 0))), (1, .inl a2), (2, .inl a3)] [] μ 0 0
  unfold wL_copy at h
  refine r_aload_n (pc := 0) C d_L_copy_0 rfl 0 rfl ?_
  refine r_iload_n (pc := 1) C d_L_copy_1 rfl 1 rfl ?_
  refine r_iload_n (pc := 2) C d_L_copy_2 rfl 2 rfl ?_
  refine r_cVcv (pc := 3) (a' := 1) (b' := 6) (As := [.inl a2, .inl a3]) (ci := 0) C hE (c_C_copy C.s h) o_C_copy rfl (lay_O rfl) (k_500 C.w) rfl ⟨by decide, by decide, by decide, by decide⟩ rfl rfl (Nat.le_of_ble_eq_true rfl) d_L_copy_3 rfl ?_ ?_
  · intro μ1 h
    refine r_goto (tgt := 12) (pc := 6) C d_L_copy_6 (by decide) ?_
    refine r_iconst (pc := 12) C d_L_copy_12 (v := 0) (by decide) ?_
    exact r_iret (pc := 13) C d_L_copy_13 (by decide) (by decide) h
  · intro q2 μ3 h
    by_cases hq0 : q2 = 7
    · subst hq0; replace h := h.1 rfl
      refine ⟨"java/lang/IllegalArgumentException", 9, rfl, ⟨⟨by decide, by decide, by decide⟩, _, k_349 C.w, Or.inl ⟨k_360 C.w, rfl⟩⟩, fun z4 => ?_⟩
      refine r_astore_n (pc := 9) (lv' := [(0, .inr (.inl (some 0))), (1, .inl a2), (2, .inl a3)]) C d_L_copy_9 rfl (by decide) rfl ?_
      refine r_iconst (pc := 10) C d_L_copy_10 (v := 1) (by decide) ?_
      exact r_iret (pc := 11) C d_L_copy_11 (by decide) (by decide) h
    exact (h.2 hq0).elim
theorem c_L_load {l : Launch} (hl : l.stackTraces = false) {G : Gl} {a2 : Int32} {a3 : Int32} {a4 : Int32} {post : Int32 → Mem → Prop} {μ : Mem} (h : wL_load a2 a3 a4 post μ) : CtW l G i_L_load h_L_load [.inr (.inl (some 0)), .inl a2, .inl a3, .inl a4, .inr (.inl (some 34))] μ (poI post) noX := by
  refine ctw_of hl (by decide) (Nat.le_of_ble_eq_true rfl) ?_
  intro K hKl C hE
  clear hl hKl
  replace C : Cx K G method_6_code "LineCollectorLaw" 6 { frames := 8, cells := 1, slots := 6, locals := 129 } (some .int) (poI post) noX := C
  show Rn K G 6 0 [(0, .inr (.inl (some 0))), (1, .inl a2), (2, .inl a3), (3, .inl a4), (4, .inr (.inl (some 34)))] [] μ 0 0
  unfold wL_load at h
  refine r_aload (pc := 0) C d_L_load_0 4 rfl ?_
  refine r_iconst (pc := 2) C d_L_load_2 (v := 0) (by decide) ?_
  refine r_aload_n (pc := 3) C d_L_load_3 rfl 0 rfl ?_
  refine r_iload_n (pc := 4) C d_L_load_4 rfl 1 rfl ?_
  refine r_iload_n (pc := 5) C d_L_load_5 rfl 2 rfl ?_
  refine r_iload_n (pc := 6) C d_L_load_6 rfl 3 rfl ?_
  refine r_cVci (pc := 7) (a' := 1) (b' := 6) (As := [.inl a2, .inl a3, .inl a4]) (ci := 0) C hE (c_C_load C.s h) o_C_load rfl (lay_O rfl) (k_509 C.w) rfl ⟨by decide, by decide, by decide, by decide⟩ rfl rfl (Nat.le_of_ble_eq_true rfl) d_L_load_7 rfl ?_ ?_
  · intro r2 μ1 h
    refine r_i2l (pc := 10) C d_L_load_10 ?_
    obtain ⟨b3, h⟩ := h
    refine r_last (pc := 11) C (lay_A rfl) b3 d_L_load_11 ?_
    intro μ4 eμ4; replace h := h μ4 eμ4
    refine r_goto (tgt := 27) (pc := 12) C d_L_load_12 (by decide) ?_
    refine r_iconst (pc := 27) C d_L_load_27 (v := 0) (by decide) ?_
    exact r_iret (pc := 28) C d_L_load_28 (by decide) (by decide) h
  · intro q5 μ6 h
    by_cases hq0 : q5 = 7
    · subst hq0; replace h := h.1 rfl
      refine ⟨"java/lang/IllegalArgumentException", 15, rfl, ⟨⟨by decide, by decide, by decide⟩, _, k_349 C.w, Or.inl ⟨k_360 C.w, rfl⟩⟩, fun z7 => ?_⟩
      refine r_astore (pc := 15) (lv' := [(0, .inr (.inl (some 0))), (1, .inl a2), (2, .inl a3), (3, .inl a4), (4, .inr (.inl (some 34)))]) C d_L_load_15 (by decide) rfl ?_
      refine r_iconst (pc := 17) C d_L_load_17 (v := 1) (by decide) ?_
      exact r_iret (pc := 18) C d_L_load_18 (by decide) (by decide) h
    by_cases hq1 : q5 = 8
    · subst hq1; replace h := h.2.1 rfl
      refine ⟨"java/lang/IllegalStateException", 19, rfl, ⟨⟨by decide, by decide, by decide⟩, _, k_349 C.w, Or.inr ⟨C.nc 1 rfl, ⟨⟨by decide, by decide, by decide⟩, _, k_507 C.w, Or.inl ⟨k_519 C.w, rfl⟩⟩⟩⟩, fun z8 => ?_⟩
      refine r_astore (pc := 19) (lv' := [(0, .inr (.inl (some 0))), (1, .inl a2), (2, .inl a3), (3, .inl a4), (4, .inr (.inl (some 34)))]) C d_L_load_19 (by decide) rfl ?_
      refine r_iconst (pc := 21) C d_L_load_21 (v := 2) (by decide) ?_
      exact r_iret (pc := 22) C d_L_load_22 (by decide) (by decide) h
    by_cases hq2 : q5 = 9
    · subst hq2; replace h := h.2.2.1 rfl
      refine ⟨"java/lang/IndexOutOfBoundsException", 23, rfl, ⟨⟨by decide, by decide, by decide⟩, _, k_349 C.w, Or.inr ⟨C.nc 2 rfl, ⟨⟨by decide, by decide, by decide⟩, _, k_507 C.w, Or.inr ⟨C.nc 3 rfl, ⟨⟨by decide, by decide, by decide⟩, _, k_508 C.w, Or.inl ⟨k_538 C.w, rfl⟩⟩⟩⟩⟩⟩, fun z9 => ?_⟩
      refine r_astore (pc := 23) (lv' := [(0, .inr (.inl (some 0))), (1, .inl a2), (2, .inl a3), (3, .inl a4), (4, .inr (.inl (some 34)))]) C d_L_load_23 (by decide) rfl ?_
      refine r_iconst (pc := 25) C d_L_load_25 (v := 3) (by decide) ?_
      exact r_iret (pc := 26) C d_L_load_26 (by decide) (by decide) h
    exact (h.2.2.2 hq0 hq1 hq2).elim
theorem c_L_store {l : Launch} (hl : l.stackTraces = false) {G : Gl} {a2 : Int32} {a3 : Int32} {a4 : Int32} {post : Int32 → Mem → Prop} {μ : Mem} (h : wL_store a2 a3 a4 post μ) : CtW l G i_L_store h_L_store [.inr (.inl (some 0)), .inl a2, .inl a3, .inl a4] μ (poI post) noX := by
  refine ctw_of hl (by decide) (Nat.le_of_ble_eq_true rfl) ?_
  intro K hKl C hE
  clear hl hKl
  replace C : Cx K G method_7_code "LineCollectorLaw" 5 { frames := 8, cells := 1, slots := 6, locals := 129 } (some .int) (poI post) noX := C
  show Rn K G 5 0 [(0, .inr (.inl (some 0))), (1, .inl a2), (2, .inl a3), (3, .inl a4)] [] μ 0 0
  unfold wL_store at h
  refine r_aload_n (pc := 0) C d_L_store_0 rfl 0 rfl ?_
  refine r_iload_n (pc := 1) C d_L_store_1 rfl 1 rfl ?_
  refine r_iload_n (pc := 2) C d_L_store_2 rfl 2 rfl ?_
  refine r_iload_n (pc := 3) C d_L_store_3 rfl 3 rfl ?_
  refine r_cVcv (pc := 4) (a' := 1) (b' := 6) (As := [.inl a2, .inl a3, .inl a4]) (ci := 0) C hE (c_C_store C.s h) o_C_store rfl (lay_O rfl) (k_557 C.w) rfl ⟨by decide, by decide, by decide, by decide⟩ rfl rfl (Nat.le_of_ble_eq_true rfl) d_L_store_4 rfl ?_ ?_
  · intro μ1 h
    refine r_goto (tgt := 22) (pc := 7) C d_L_store_7 (by decide) ?_
    refine r_iconst (pc := 22) C d_L_store_22 (v := 0) (by decide) ?_
    exact r_iret (pc := 23) C d_L_store_23 (by decide) (by decide) h
  · intro q2 μ3 h
    by_cases hq0 : q2 = 7
    · subst hq0; replace h := h.1 rfl
      refine ⟨"java/lang/IllegalArgumentException", 10, rfl, ⟨⟨by decide, by decide, by decide⟩, _, k_349 C.w, Or.inl ⟨k_360 C.w, rfl⟩⟩, fun z4 => ?_⟩
      refine r_astore (pc := 10) (lv' := [(0, .inr (.inl (some 0))), (1, .inl a2), (2, .inl a3), (3, .inl a4)]) C d_L_store_10 (by decide) rfl ?_
      refine r_iconst (pc := 12) C d_L_store_12 (v := 1) (by decide) ?_
      exact r_iret (pc := 13) C d_L_store_13 (by decide) (by decide) h
    by_cases hq1 : q2 = 8
    · subst hq1; replace h := h.2.1 rfl
      refine ⟨"java/lang/IllegalStateException", 14, rfl, ⟨⟨by decide, by decide, by decide⟩, _, k_349 C.w, Or.inr ⟨C.nc 1 rfl, ⟨⟨by decide, by decide, by decide⟩, _, k_507 C.w, Or.inl ⟨k_519 C.w, rfl⟩⟩⟩⟩, fun z5 => ?_⟩
      refine r_astore (pc := 14) (lv' := [(0, .inr (.inl (some 0))), (1, .inl a2), (2, .inl a3), (3, .inl a4)]) C d_L_store_14 (by decide) rfl ?_
      refine r_iconst (pc := 16) C d_L_store_16 (v := 2) (by decide) ?_
      exact r_iret (pc := 17) C d_L_store_17 (by decide) (by decide) h
    by_cases hq2 : q2 = 9
    · subst hq2; replace h := h.2.2.1 rfl
      refine ⟨"java/lang/IndexOutOfBoundsException", 18, rfl, ⟨⟨by decide, by decide, by decide⟩, _, k_349 C.w, Or.inr ⟨C.nc 2 rfl, ⟨⟨by decide, by decide, by decide⟩, _, k_507 C.w, Or.inr ⟨C.nc 3 rfl, ⟨⟨by decide, by decide, by decide⟩, _, k_508 C.w, Or.inl ⟨k_538 C.w, rfl⟩⟩⟩⟩⟩⟩, fun z6 => ?_⟩
      refine r_astore (pc := 18) (lv' := [(0, .inr (.inl (some 0))), (1, .inl a2), (2, .inl a3), (3, .inl a4)]) C d_L_store_18 (by decide) rfl ?_
      refine r_iconst (pc := 20) C d_L_store_20 (v := 3) (by decide) ?_
      exact r_iret (pc := 21) C d_L_store_21 (by decide) (by decide) h
    exact (h.2.2.2 hq0 hq1 hq2).elim
theorem c_L_drain {l : Launch} (hl : l.stackTraces = false) {G : Gl} {a2 : Int32} {post : Int32 → Mem → Prop} {μ : Mem} (h : wL_drain a2 post μ) : CtW l G i_L_drain h_L_drain [.inr (.inl (some 0)), .inl a2, .inr (.inl (some 34))] μ (poI post) noX := by
  refine ctw_of hl (by decide) (Nat.le_of_ble_eq_true rfl) ?_
  intro K hKl C hE
  clear hl hKl
  replace C : Cx K G method_8_code "LineCollectorLaw" 4 { frames := 7, cells := 1, slots := 6, locals := 129 } (some .int) (poI post) noX := C
  show Rn K G 4 0 [(0, .inr (.inl (some 0))), (1, .inl a2), (2, .inr (.inl (some 34)))] [] μ 0 0
  unfold wL_drain at h
  refine r_aload_n (pc := 0) C d_L_drain_0 rfl 2 rfl ?_
  refine r_iconst (pc := 1) C d_L_drain_1 (v := 0) (by decide) ?_
  refine r_aload_n (pc := 2) C d_L_drain_2 rfl 0 rfl ?_
  refine r_iload_n (pc := 3) C d_L_drain_3 rfl 1 rfl ?_
  refine r_cVci (pc := 4) (a' := 1) (b' := 6) (As := [.inl a2]) (ci := 0) C hE (c_C_drain C.s h) o_C_drain rfl (lay_O rfl) (k_568 C.w) rfl ⟨by decide, by decide, by decide, by decide⟩ rfl rfl (Nat.le_of_ble_eq_true rfl) d_L_drain_4 rfl ?_ ?_
  · intro r2 μ1 h
    refine r_i2l (pc := 7) C d_L_drain_7 ?_
    obtain ⟨b3, h⟩ := h
    refine r_last (pc := 8) C (lay_A rfl) b3 d_L_drain_8 ?_
    intro μ4 eμ4; replace h := h μ4 eμ4
    refine r_goto (tgt := 15) (pc := 9) C d_L_drain_9 (by decide) ?_
    refine r_iconst (pc := 15) C d_L_drain_15 (v := 0) (by decide) ?_
    exact r_iret (pc := 16) C d_L_drain_16 (by decide) (by decide) h
  · intro q5 μ6 h
    by_cases hq0 : q5 = 7
    · subst hq0; replace h := h.1 rfl
      refine ⟨"java/lang/IllegalArgumentException", 12, rfl, ⟨⟨by decide, by decide, by decide⟩, _, k_349 C.w, Or.inl ⟨k_360 C.w, rfl⟩⟩, fun z7 => ?_⟩
      refine r_astore_n (pc := 12) (lv' := [(0, .inr (.inl (some 0))), (1, .inl a2), (2, .inr (.inl (some 34)))]) C d_L_drain_12 rfl (by decide) rfl ?_
      refine r_iconst (pc := 13) C d_L_drain_13 (v := 1) (by decide) ?_
      exact r_iret (pc := 14) C d_L_drain_14 (by decide) (by decide) h
    exact (h.2 hq0).elim
theorem c_L_trace {l : Launch} (hl : l.stackTraces = false) {G : Gl} {a2 : Int32} {post : Int32 → Mem → Prop} {μ : Mem} (h : wL_trace a2 post μ) : CtW l G i_L_trace h_L_trace [.inr (.inl (some 0)), .inl a2, .inr (.inl (some 34))] μ (poI post) noX := by
  refine ctw_of hl (by decide) (Nat.le_of_ble_eq_true rfl) ?_
  intro K hKl C hE
  clear hl hKl
  replace C : Cx K G method_9_code "LineCollectorLaw" 4 { frames := 7, cells := 1, slots := 6, locals := 152 } (some .int) (poI post) noX := C
  show Rn K G 4 0 [(0, .inr (.inl (some 0))), (1, .inl a2), (2, .inr (.inl (some 34)))] [] μ 0 0
  unfold wL_trace at h
  refine r_aload_n (pc := 0) C d_L_trace_0 rfl 2 rfl ?_
  refine r_iconst (pc := 1) C d_L_trace_1 (v := 0) (by decide) ?_
  refine r_aload_n (pc := 2) C d_L_trace_2 rfl 0 rfl ?_
  refine r_iload_n (pc := 3) C d_L_trace_3 rfl 1 rfl ?_
  refine r_cVci (pc := 4) (a' := 1) (b' := 6) (As := [.inl a2]) (ci := 0) C hE (c_C_trace C.s h) o_C_trace rfl (lay_O rfl) (k_575 C.w) rfl ⟨by decide, by decide, by decide, by decide⟩ rfl rfl (Nat.le_of_ble_eq_true rfl) d_L_trace_4 rfl ?_ ?_
  · intro r2 μ1 h
    refine r_i2l (pc := 7) C d_L_trace_7 ?_
    obtain ⟨b3, h⟩ := h
    refine r_last (pc := 8) C (lay_A rfl) b3 d_L_trace_8 ?_
    intro μ4 eμ4; replace h := h μ4 eμ4
    refine r_goto (tgt := 18) (pc := 9) C d_L_trace_9 (by decide) ?_
    refine r_iconst (pc := 18) C d_L_trace_18 (v := 0) (by decide) ?_
    exact r_iret (pc := 19) C d_L_trace_19 (by decide) (by decide) h
  · intro q5 μ6 h
    by_cases hq0 : q5 = 7
    · subst hq0; replace h := h.1 rfl
      refine ⟨"java/lang/IllegalArgumentException", 12, rfl, ⟨⟨by decide, by decide, by decide⟩, _, k_349 C.w, Or.inl ⟨k_360 C.w, rfl⟩⟩, fun z7 => ?_⟩
      refine r_astore_n (pc := 12) (lv' := [(0, .inr (.inl (some 0))), (1, .inl a2), (2, .inr (.inl (some 34)))]) C d_L_trace_12 rfl (by decide) rfl ?_
      refine r_iconst (pc := 13) C d_L_trace_13 (v := 1) (by decide) ?_
      exact r_iret (pc := 14) C d_L_trace_14 (by decide) (by decide) h
    by_cases hq1 : q5 = 8
    · subst hq1; replace h := h.2.1 rfl
      refine ⟨"java/lang/IllegalStateException", 15, rfl, ⟨⟨by decide, by decide, by decide⟩, _, k_349 C.w, Or.inr ⟨C.nc 1 rfl, ⟨⟨by decide, by decide, by decide⟩, _, k_507 C.w, Or.inl ⟨k_519 C.w, rfl⟩⟩⟩⟩, fun z8 => ?_⟩
      refine r_astore_n (pc := 15) (lv' := [(0, .inr (.inl (some 0))), (1, .inl a2), (2, .inr (.inl (some 34)))]) C d_L_trace_15 rfl (by decide) rfl ?_
      refine r_iconst (pc := 16) C d_L_trace_16 (v := 2) (by decide) ?_
      exact r_iret (pc := 17) C d_L_trace_17 (by decide) (by decide) h
    exact (h.2.2 hq0 hq1).elim
theorem c_L_root {l : Launch} (hl : l.stackTraces = false) {G : Gl} {a2 : Int32} {post : Int32 → Mem → Prop} {μ : Mem} (h : wL_root a2 post μ) : CtW l G i_L_root h_L_root [.inr (.inl (some 0)), .inl a2, .inr (.inl (some 34))] μ (poI post) noX := by
  refine ctw_of hl (by decide) (Nat.le_of_ble_eq_true rfl) ?_
  intro K hKl C hE
  clear hl hKl
  replace C : Cx K G method_10_code "LineCollectorLaw" 4 { frames := 7, cells := 1, slots := 6, locals := 102 } (some .int) (poI post) noX := C
  show Rn K G 4 0 [(0, .inr (.inl (some 0))), (1, .inl a2), (2, .inr (.inl (some 34)))] [] μ 0 0
  unfold wL_root at h
  refine r_aload_n (pc := 0) C d_L_root_0 rfl 2 rfl ?_
  refine r_iconst (pc := 1) C d_L_root_1 (v := 0) (by decide) ?_
  refine r_aload_n (pc := 2) C d_L_root_2 rfl 0 rfl ?_
  refine r_iload_n (pc := 3) C d_L_root_3 rfl 1 rfl ?_
  refine r_cVci (pc := 4) (a' := 1) (b' := 6) (As := [.inl a2]) (ci := 0) C hE (c_C_root C.s h) o_C_root rfl (lay_O rfl) (k_582 C.w) rfl ⟨by decide, by decide, by decide, by decide⟩ rfl rfl (Nat.le_of_ble_eq_true rfl) d_L_root_4 rfl ?_ ?_
  · intro r2 μ1 h
    refine r_i2l (pc := 7) C d_L_root_7 ?_
    obtain ⟨b3, h⟩ := h
    refine r_last (pc := 8) C (lay_A rfl) b3 d_L_root_8 ?_
    intro μ4 eμ4; replace h := h μ4 eμ4
    refine r_goto (tgt := 15) (pc := 9) C d_L_root_9 (by decide) ?_
    refine r_iconst (pc := 15) C d_L_root_15 (v := 0) (by decide) ?_
    exact r_iret (pc := 16) C d_L_root_16 (by decide) (by decide) h
  · intro q5 μ6 h
    by_cases hq0 : q5 = 7
    · subst hq0; replace h := h.1 rfl
      refine ⟨"java/lang/IllegalArgumentException", 12, rfl, ⟨⟨by decide, by decide, by decide⟩, _, k_349 C.w, Or.inl ⟨k_360 C.w, rfl⟩⟩, fun z7 => ?_⟩
      refine r_astore_n (pc := 12) (lv' := [(0, .inr (.inl (some 0))), (1, .inl a2), (2, .inr (.inl (some 34)))]) C d_L_root_12 rfl (by decide) rfl ?_
      refine r_iconst (pc := 13) C d_L_root_13 (v := 1) (by decide) ?_
      exact r_iret (pc := 14) C d_L_root_14 (by decide) (by decide) h
    exact (h.2 hq0).elim
theorem c_L_field {l : Launch} (hl : l.stackTraces = false) {G : Gl} {a2 : Int32} {a3 : Int32} {post : Int32 → Mem → Prop} {μ : Mem} (h : wL_field a2 a3 post μ) : CtW l G i_L_field h_L_field [.inr (.inl (some 0)), .inl a2, .inl a3, .inr (.inl (some 34))] μ (poI post) noX := by
  refine ctw_of hl (by decide) (Nat.le_of_ble_eq_true rfl) ?_
  intro K hKl C hE
  clear hl hKl
  replace C : Cx K G method_11_code "LineCollectorLaw" 5 { frames := 7, cells := 1, slots := 6, locals := 104 } (some .int) (poI post) noX := C
  show Rn K G 5 0 [(0, .inr (.inl (some 0))), (1, .inl a2), (2, .inl a3), (3, .inr (.inl (some 34)))] [] μ 0 0
  unfold wL_field at h
  refine r_aload_n (pc := 0) C d_L_field_0 rfl 3 rfl ?_
  refine r_iconst (pc := 1) C d_L_field_1 (v := 0) (by decide) ?_
  refine r_aload_n (pc := 2) C d_L_field_2 rfl 0 rfl ?_
  refine r_iload_n (pc := 3) C d_L_field_3 rfl 1 rfl ?_
  refine r_iload_n (pc := 4) C d_L_field_4 rfl 2 rfl ?_
  refine r_cVci (pc := 5) (a' := 1) (b' := 6) (As := [.inl a2, .inl a3]) (ci := 0) C hE (c_C_field C.s h) o_C_field rfl (lay_O rfl) (k_590 C.w) rfl ⟨by decide, by decide, by decide, by decide⟩ rfl rfl (Nat.le_of_ble_eq_true rfl) d_L_field_5 rfl ?_ ?_
  · intro r2 μ1 h
    refine r_i2l (pc := 8) C d_L_field_8 ?_
    obtain ⟨b3, h⟩ := h
    refine r_last (pc := 9) C (lay_A rfl) b3 d_L_field_9 ?_
    intro μ4 eμ4; replace h := h μ4 eμ4
    refine r_goto (tgt := 21) (pc := 10) C d_L_field_10 (by decide) ?_
    refine r_iconst (pc := 21) C d_L_field_21 (v := 0) (by decide) ?_
    exact r_iret (pc := 22) C d_L_field_22 (by decide) (by decide) h
  · intro q5 μ6 h
    by_cases hq0 : q5 = 11
    · subst hq0; replace h := h.1 rfl
      refine ⟨"java/util/NoSuchElementException", 13, rfl, ⟨⟨by decide, by decide, by decide⟩, _, k_589 C.w, Or.inl ⟨k_600 C.w, rfl⟩⟩, fun z7 => ?_⟩
      refine r_astore (pc := 13) (lv' := [(0, .inr (.inl (some 0))), (1, .inl a2), (2, .inl a3), (3, .inr (.inl (some 34)))]) C d_L_field_13 (by decide) rfl ?_
      refine r_iconst (pc := 15) C d_L_field_15 (v := 1) (by decide) ?_
      exact r_iret (pc := 16) C d_L_field_16 (by decide) (by decide) h
    by_cases hq1 : q5 = 9
    · subst hq1; replace h := h.2.1 rfl
      refine ⟨"java/lang/IndexOutOfBoundsException", 17, rfl, ⟨⟨by decide, by decide, by decide⟩, _, k_589 C.w, Or.inr ⟨C.nc 4 rfl, ⟨⟨by decide, by decide, by decide⟩, _, k_508 C.w, Or.inl ⟨k_538 C.w, rfl⟩⟩⟩⟩, fun z8 => ?_⟩
      refine r_astore (pc := 17) (lv' := [(0, .inr (.inl (some 0))), (1, .inl a2), (2, .inl a3), (3, .inr (.inl (some 34)))]) C d_L_field_17 (by decide) rfl ?_
      refine r_iconst (pc := 19) C d_L_field_19 (v := 2) (by decide) ?_
      exact r_iret (pc := 20) C d_L_field_20 (by decide) (by decide) h
    exact (h.2.2 hq0 hq1).elim
