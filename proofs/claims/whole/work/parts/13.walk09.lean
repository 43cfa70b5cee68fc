/-! The machine meets the predicates (written by a program) -/
theorem c_M_line {l : Launch} (hl : l.stackTraces = false) {G : Gl} (hg : gf G = true) {a1 : Int32} {post : Int32 → Mem → Prop} {μ : Mem} (h : wM_line a1 post μ) : Ct l G i_M_line [.inr (.inl (some 17)), .inl a1] μ (poI post) noX := by
  refine ct_of hl (by decide) (Nat.le_of_ble_eq_true rfl) ?_
  intro K hKl C Q hE
  clear hl hKl
  replace C : Cx K G prog_8_method_50_code "LineCollectorModel" 2 { frames := 1, cells := 0, slots := 0, locals := 23 } := C
  replace Q : Cq K G { frames := 1, cells := 0, slots := 0, locals := 23 } (some .int) (poI post) noX := Q
  show Rn K G 2 0 [(0, .inr (.inl (some 17))), (1, .inl a1)] [] μ 0 0
  have J_16 : ∀ (l1 : Int32) (t1 : Int32) (μ : Mem), wM_line_16 l1 t1 post μ → Rn K G 2 16 [(0, .inr (.inl (some 17))), (1, .inl l1)] [.int t1, rv G (some 17)] μ 0 0 := by
    intro l1 t1 μ h
    unfold wM_line_16 at h
    refine r_putI (pc := 16) (ci := 6) C rfl 0 (by decide) (k_650 C.w) rfl rfl p_I (lay_O hg rfl) d_M_line_16 ?_
    intro μ1 eμ1; replace h := h μ1 eμ1
    refine r_aload_n (pc := 19) C d_M_line_19 rfl 0 rfl ?_
    refine r_getI (pc := 20) (ci := 6) C rfl 0 (by decide) (k_650 C.w) rfl (lay_O hg rfl) d_M_line_20 ?_
    refine r_if_le (tgt := 30) (pc := 23) C d_M_line_23 (by decide) ?_ ?_
    · intro hc; replace h := h.1 hc
      refine r_aload_n (pc := 30) C d_M_line_30 rfl 0 rfl ?_
      refine r_iload_n (pc := 31) C d_M_line_31 rfl 1 rfl ?_
      refine r_cVi (pc := 32) (a' := 0) (b' := 0) (As := [.inl l1]) (ci := 6) C (c_M_isUsed C.s hg h) o_M_isUsed rfl (lay_O hg rfl) (k_767 C.w) rfl ⟨by decide, by decide, by decide, by decide⟩ rfl rfl (Nat.le_of_ble_eq_true rfl) d_M_line_32 rfl ?_
      intro r3 μ2 h
      refine r_if_eq (tgt := 42) (pc := 35) C d_M_line_35 (by decide) ?_ ?_
      · intro hc; replace h := h.1 hc
        refine r_aload_n (pc := 42) C d_M_line_42 rfl 0 rfl ?_
        refine r_iload_n (pc := 43) C d_M_line_43 rfl 1 rfl ?_
        refine r_cVi (pc := 44) (a' := 0) (b' := 0) (As := [.inl l1]) (ci := 6) C (c_M_isTaken C.s hg h) o_M_isTaken rfl (lay_O hg rfl) (k_771 C.w) rfl ⟨by decide, by decide, by decide, by decide⟩ rfl rfl (Nat.le_of_ble_eq_true rfl) d_M_line_44 rfl ?_
        intro r5 μ4 h
        refine r_if_eq (tgt := 54) (pc := 47) C d_M_line_47 (by decide) ?_ ?_
        · intro hc; replace h := h.1 hc
          refine r_iconst (pc := 54) C d_M_line_54 (v := 0) (by decide) ?_
          exact r_iret (pc := 55) C Q d_M_line_55 (by decide) (by decide) h
        · intro hc; replace h := h.2 hc
          refine r_iconst (pc := 50) C d_M_line_50 (v := 2) (by decide) ?_
          refine r_goto (tgt := 55) (pc := 51) C d_M_line_51 (by decide) ?_
          exact r_iret (pc := 55) C Q d_M_line_55 (by decide) (by decide) h
      · intro hc; replace h := h.2 hc
        refine r_iconst (pc := 38) C d_M_line_38 (v := 1) (by decide) ?_
        refine r_goto (tgt := 55) (pc := 39) C d_M_line_39 (by decide) ?_
        exact r_iret (pc := 55) C Q d_M_line_55 (by decide) (by decide) h
    · intro hc; replace h := h.2 hc
      refine r_iconst (pc := 26) C d_M_line_26 (v := 0) (by decide) ?_
      refine r_goto (tgt := 55) (pc := 27) C d_M_line_27 (by decide) ?_
      exact r_iret (pc := 55) C Q d_M_line_55 (by decide) (by decide) h
  have J_15 : ∀ (l1 : Int32) (μ : Mem), wM_line_15 l1 post μ → Rn K G 2 15 [(0, .inr (.inl (some 17))), (1, .inl l1)] [rv G (some 17)] μ 0 0 := by
    intro l1 μ h
    unfold wM_line_15 at h
    refine r_iconst (pc := 15) C d_M_line_15 (v := 1) (by decide) ?_
    exact J_16 l1 1 μ h
  unfold wM_line at h
  refine r_aload_n (pc := 0) C d_M_line_0 rfl 0 rfl ?_
  refine r_iload_n (pc := 1) C d_M_line_1 rfl 1 rfl ?_
  refine r_if_lt (tgt := 15) (pc := 2) C d_M_line_2 (by decide) ?_ ?_
  · intro hc; replace h := h.1 hc
    exact J_15 a1 μ h
  · intro hc; replace h := h.2 hc
    refine r_iload_n (pc := 5) C d_M_line_5 rfl 1 rfl ?_
    refine r_bipush (pc := 6) C d_M_line_6 (v := 32) (by decide) ?_
    refine r_icmp_ge (tgt := 15) (pc := 8) C d_M_line_8 (by decide) ?_ ?_
    · intro hc; replace h := h.1 hc
      exact J_15 a1 μ h
    · intro hc; replace h := h.2 hc
      refine r_iconst (pc := 11) C d_M_line_11 (v := 0) (by decide) ?_
      refine r_goto (tgt := 16) (pc := 12) C d_M_line_12 (by decide) ?_
      exact J_16 a1 0 μ h
theorem c_M_objects {l : Launch} (hl : l.stackTraces = false) {G : Gl} (hg : gf G = true) {a1 : Int32} {post : Int32 → Mem → Prop} {μ : Mem} (h : wM_objects a1 post μ) : Ct l G i_M_objects [.inr (.inl (some 17)), .inl a1] μ (poI post) noX := by
  refine ct_of hl (by decide) (Nat.le_of_ble_eq_true rfl) ?_
  intro K hKl C Q hE
  clear hl hKl
  replace C : Cx K G prog_8_method_51_code "LineCollectorModel" 4 { frames := 0, cells := 0, slots := 0, locals := 0 } := C
  replace Q : Cq K G { frames := 0, cells := 0, slots := 0, locals := 0 } (some .int) (poI post) noX := Q
  show Rn K G 4 0 [(0, .inr (.inl (some 17))), (1, .inl a1)] [] μ 0 0
  have L_4 : ∀ (l1 : Int32) (k : Int32 → Int32 → Mem → Prop), (∀ (v2 : Int32) (v3 : Int32) (μ : Mem), k v2 v3 μ → Rn K G 4 45 [(2, .inl v2)] [] μ 0 0) → ∀ (n : Nat) (l2 : Int32) (l3 : Int32) (μ : Mem), wM_objects_4 l1 k n l2 l3 μ → Rn K G 4 4 [(0, .inr (.inl (some 17))), (1, .inl l1), (2, .inl l2), (3, .inl l3)] [] μ 0 0 := by
    intro l1 k hk n
    induction n with
    | zero => intro l2 l3 μ h; exact h.elim
    | succ n ih =>
      intro l2 l3 μ h
      unfold wM_objects_4 at h
      refine r_iload_n (pc := 4) C d_M_objects_4 rfl 3 rfl ?_
      refine r_sipush (pc := 5) C d_M_objects_5 (v := 256) (by decide) ?_
      refine r_icmp_ge (tgt := 45) (pc := 8) C d_M_objects_8 (by decide) ?_ ?_
      · intro hc; replace h := h.1 hc
        refine r_sub [2] rfl ?_
        exact hk l2 l3 μ h
      · intro hc; replace h := h.2 hc
        refine r_aload_n (pc := 11) C d_M_objects_11 rfl 0 rfl ?_
        refine r_getR (pc := 12) (ci := 6) C rfl 2 (by decide) (k_652 C.w) rfl (lay_O hg rfl) d_M_objects_12 ?_
        refine r_iload_n (pc := 15) C d_M_objects_15 rfl 3 rfl ?_
        obtain ⟨b1, h⟩ := h
        refine r_iald (pc := 16) C (lay_A hg rfl) b1 d_M_objects_16 ?_
        refine r_iconst (pc := 17) C d_M_objects_17 (v := 1) (by decide) ?_
        refine r_icmp_eq (tgt := 31) (pc := 18) C d_M_objects_18 (by decide) ?_ ?_
        · intro hc; replace h := h.1 hc
          refine r_iload_n (pc := 31) C d_M_objects_31 rfl 2 rfl ?_
          refine r_iconst (pc := 32) C d_M_objects_32 (v := 1) (by decide) ?_
          refine r_iadd (pc := 33) C d_M_objects_33 ?_
          refine r_goto (tgt := 38) (pc := 34) C d_M_objects_34 (by decide) ?_
          refine r_istore_n (pc := 38) (lv' := [(0, .inr (.inl (some 17))), (1, .inl l1), (3, .inl l3)]) C d_M_objects_38 rfl (by decide) rfl ?_
          refine r_iinc (pc := 39) (v := 1) (lv' := [(2, .inl (l2 + 1)), (0, .inr (.inl (some 17))), (1, .inl l1)]) C d_M_objects_39 3 rfl (by decide) (by decide) rfl ?_
          refine r_goto (tgt := 4) (pc := 42) C d_M_objects_42 (by decide) ?_
          refine r_sub [2, 3, 1, 0] rfl ?_
          exact ih (l2 + 1) (l3 + 1) μ h
        · intro hc; replace h := h.2 hc
          refine r_aload_n (pc := 21) C d_M_objects_21 rfl 0 rfl ?_
          refine r_getR (pc := 22) (ci := 6) C rfl 2 (by decide) (k_652 C.w) rfl (lay_O hg rfl) d_M_objects_22 ?_
          refine r_iload_n (pc := 25) C d_M_objects_25 rfl 3 rfl ?_
          refine r_iald (pc := 26) C (lay_A hg rfl) b1 d_M_objects_26 ?_
          refine r_iload_n (pc := 27) C d_M_objects_27 rfl 1 rfl ?_
          refine r_icmp_le (tgt := 37) (pc := 28) C d_M_objects_28 (by decide) ?_ ?_
          · intro hc; replace h := h.1 hc
            refine r_iload_n (pc := 37) C d_M_objects_37 rfl 2 rfl ?_
            refine r_istore_n (pc := 38) (lv' := [(0, .inr (.inl (some 17))), (1, .inl l1), (3, .inl l3)]) C d_M_objects_38 rfl (by decide) rfl ?_
            refine r_iinc (pc := 39) (v := 1) (lv' := [(2, .inl l2), (0, .inr (.inl (some 17))), (1, .inl l1)]) C d_M_objects_39 3 rfl (by decide) (by decide) rfl ?_
            refine r_goto (tgt := 4) (pc := 42) C d_M_objects_42 (by decide) ?_
            refine r_sub [2, 3, 1, 0] rfl ?_
            exact ih l2 (l3 + 1) μ h
          · intro hc; replace h := h.2 hc
            refine r_iload_n (pc := 31) C d_M_objects_31 rfl 2 rfl ?_
            refine r_iconst (pc := 32) C d_M_objects_32 (v := 1) (by decide) ?_
            refine r_iadd (pc := 33) C d_M_objects_33 ?_
            refine r_goto (tgt := 38) (pc := 34) C d_M_objects_34 (by decide) ?_
            refine r_istore_n (pc := 38) (lv' := [(0, .inr (.inl (some 17))), (1, .inl l1), (3, .inl l3)]) C d_M_objects_38 rfl (by decide) rfl ?_
            refine r_iinc (pc := 39) (v := 1) (lv' := [(2, .inl (l2 + 1)), (0, .inr (.inl (some 17))), (1, .inl l1)]) C d_M_objects_39 3 rfl (by decide) (by decide) rfl ?_
            refine r_goto (tgt := 4) (pc := 42) C d_M_objects_42 (by decide) ?_
            refine r_sub [2, 3, 1, 0] rfl ?_
            exact ih (l2 + 1) (l3 + 1) μ h
  unfold wM_objects at h
  refine r_iconst (pc := 0) C d_M_objects_0 (v := 0) (by decide) ?_
  refine r_istore_n (pc := 1) (lv' := [(0, .inr (.inl (some 17))), (1, .inl a1)]) C d_M_objects_1 rfl (by decide) rfl ?_
  refine r_iconst (pc := 2) C d_M_objects_2 (v := 0) (by decide) ?_
  refine r_istore_n (pc := 3) (lv' := [(2, .inl 0), (0, .inr (.inl (some 17))), (1, .inl a1)]) C d_M_objects_3 rfl (by decide) rfl ?_
  obtain ⟨n5, h⟩ := h
  refine r_sub [2, 3, 1, 0] rfl ?_
  refine L_4 a1 _ ?_ n5 0 0 μ h
  intro v3 v4 μ2 h
  refine r_iload_n (pc := 45) C d_M_objects_45 rfl 0 rfl ?_
  exact r_iret (pc := 46) C Q d_M_objects_46 (by decide) (by decide) h
theorem c_M_figure {l : Launch} (hl : l.stackTraces = false) {G : Gl} (hg : gf G = true) {a1 : Int32} {post : Int32 → Mem → Prop} {μ : Mem} (h : wM_figure a1 post μ) : Ct l G i_M_figure [.inr (.inl (some 17)), .inl a1] μ (poI post) noX := by
  refine ct_of hl (by decide) (Nat.le_of_ble_eq_true rfl) ?_
  intro K hKl C Q hE
  clear hl hKl
  replace C : Cx K G prog_8_method_52_code "LineCollectorModel" 2 { frames := 1, cells := 0, slots := 0, locals := 23 } := C
  replace Q : Cq K G { frames := 1, cells := 0, slots := 0, locals := 23 } (some .int) (poI post) noX := Q
  show Rn K G 2 0 [(0, .inr (.inl (some 17))), (1, .inl a1)] [] μ 0 0
  have J_16 : ∀ (l1 : Int32) (t1 : Int32) (μ : Mem), wM_figure_16 l1 t1 post μ → Rn K G 2 16 [(0, .inr (.inl (some 17))), (1, .inl l1)] [.int t1, rv G (some 17)] μ 0 0 := by
    intro l1 t1 μ h
    unfold wM_figure_16 at h
    refine r_putI (pc := 16) (ci := 6) C rfl 0 (by decide) (k_650 C.w) rfl rfl p_I (lay_O hg rfl) d_M_figure_16 ?_
    intro μ1 eμ1; replace h := h μ1 eμ1
    refine r_iload_n (pc := 19) C d_M_figure_19 rfl 1 rfl ?_
    by_cases hs0 : l1 = 0
    · replace h := h.1 hs0
      refine r_tin (tgt := 72) (pc := 20) C d_M_figure_20 hs0 (by decide) (by decide) (by rfl) (by decide) ?_
      refine r_aload_n (pc := 72) C d_M_figure_72 rfl 0 rfl ?_
      refine r_iconst (pc := 73) C d_M_figure_73 (v := 1) (by decide) ?_
      refine r_cVi (pc := 74) (a' := 0) (b' := 0) (As := [.inl 1]) (ci := 6) C (c_M_objects C.s hg h) o_M_objects rfl (lay_O hg rfl) (k_943 C.w) rfl ⟨by decide, by decide, by decide, by decide⟩ rfl rfl (Nat.le_of_ble_eq_true rfl) d_M_figure_74 rfl ?_
      intro r3 μ2 h
      exact r_iret (pc := 77) C Q d_M_figure_77 (by decide) (by decide) h
    by_cases hs1 : l1 = 1
    · replace h := h.2.1 hs1
      refine r_tin (tgt := 78) (pc := 20) C d_M_figure_20 hs1 (by decide) (by decide) (by rfl) (by decide) ?_
      refine r_aload_n (pc := 78) C d_M_figure_78 rfl 0 rfl ?_
      refine r_iconst (pc := 79) C d_M_figure_79 (v := 2) (by decide) ?_
      refine r_cVi (pc := 80) (a' := 0) (b' := 0) (As := [.inl 2]) (ci := 6) C (c_M_objects C.s hg h) o_M_objects rfl (lay_O hg rfl) (k_943 C.w) rfl ⟨by decide, by decide, by decide, by decide⟩ rfl rfl (Nat.le_of_ble_eq_true rfl) d_M_figure_80 rfl ?_
      intro r5 μ4 h
      exact r_iret (pc := 83) C Q d_M_figure_83 (by decide) (by decide) h
    by_cases hs2 : l1 = 2
    · replace h := h.2.2.1 hs2
      refine r_tin (tgt := 84) (pc := 20) C d_M_figure_20 hs2 (by decide) (by decide) (by rfl) (by decide) ?_
      refine r_aload_n (pc := 84) C d_M_figure_84 rfl 0 rfl ?_
      refine r_getI (pc := 85) (ci := 6) C rfl 21 (by decide) (k_671 C.w) rfl (lay_O hg rfl) d_M_figure_85 ?_
      exact r_iret (pc := 88) C Q d_M_figure_88 (by decide) (by decide) h
    by_cases hs3 : l1 = 3
    · replace h := h.2.2.2.1 hs3
      refine r_tin (tgt := 89) (pc := 20) C d_M_figure_20 hs3 (by decide) (by decide) (by rfl) (by decide) ?_
      refine r_aload_n (pc := 89) C d_M_figure_89 rfl 0 rfl ?_
      refine r_getI (pc := 90) (ci := 6) C rfl 24 (by decide) (k_674 C.w) rfl (lay_O hg rfl) d_M_figure_90 ?_
      exact r_iret (pc := 93) C Q d_M_figure_93 (by decide) (by decide) h
    by_cases hs4 : l1 = 4
    · replace h := h.2.2.2.2.1 hs4
      refine r_tin (tgt := 94) (pc := 20) C d_M_figure_20 hs4 (by decide) (by decide) (by rfl) (by decide) ?_
      refine r_aload_n (pc := 94) C d_M_figure_94 rfl 0 rfl ?_
      refine r_getI (pc := 95) (ci := 6) C rfl 28 (by decide) (k_678 C.w) rfl (lay_O hg rfl) d_M_figure_95 ?_
      exact r_iret (pc := 98) C Q d_M_figure_98 (by decide) (by decide) h
    by_cases hs5 : l1 = 5
    · replace h := h.2.2.2.2.2.1 hs5
      refine r_tin (tgt := 99) (pc := 20) C d_M_figure_20 hs5 (by decide) (by decide) (by rfl) (by decide) ?_
      refine r_aload_n (pc := 99) C d_M_figure_99 rfl 0 rfl ?_
      refine r_getI (pc := 100) (ci := 6) C rfl 27 (by decide) (k_677 C.w) rfl (lay_O hg rfl) d_M_figure_100 ?_
      refine r_if_eq (tgt := 110) (pc := 103) C d_M_figure_103 (by decide) ?_ ?_
      · intro hc; replace h := h.1 hc
        refine r_iconst (pc := 110) C d_M_figure_110 (v := 0) (by decide) ?_
        exact r_iret (pc := 111) C Q d_M_figure_111 (by decide) (by decide) h
      · intro hc; replace h := h.2 hc
        refine r_iconst (pc := 106) C d_M_figure_106 (v := 1) (by decide) ?_
        refine r_goto (tgt := 111) (pc := 107) C d_M_figure_107 (by decide) ?_
        exact r_iret (pc := 111) C Q d_M_figure_111 (by decide) (by decide) h
    by_cases hs6 : l1 = 6
    · replace h := h.2.2.2.2.2.2.1 hs6
      refine r_tin (tgt := 112) (pc := 20) C d_M_figure_20 hs6 (by decide) (by decide) (by rfl) (by decide) ?_
      refine r_aload_n (pc := 112) C d_M_figure_112 rfl 0 rfl ?_
      refine r_getI (pc := 113) (ci := 6) C rfl 29 (by decide) (k_679 C.w) rfl (lay_O hg rfl) d_M_figure_113 ?_
      exact r_iret (pc := 116) C Q d_M_figure_116 (by decide) (by decide) h
    by_cases hs7 : l1 = 7
    · replace h := h.2.2.2.2.2.2.2.1 hs7
      refine r_tin (tgt := 117) (pc := 20) C d_M_figure_20 hs7 (by decide) (by decide) (by rfl) (by decide) ?_
      refine r_aload_n (pc := 117) C d_M_figure_117 rfl 0 rfl ?_
      refine r_getI (pc := 118) (ci := 6) C rfl 30 (by decide) (k_680 C.w) rfl (lay_O hg rfl) d_M_figure_118 ?_
      exact r_iret (pc := 121) C Q d_M_figure_121 (by decide) (by decide) h
    by_cases hs8 : l1 = 8
    · replace h := h.2.2.2.2.2.2.2.2.1 hs8
      refine r_tin (tgt := 122) (pc := 20) C d_M_figure_20 hs8 (by decide) (by decide) (by rfl) (by decide) ?_
      refine r_aload_n (pc := 122) C d_M_figure_122 rfl 0 rfl ?_
      refine r_cVi (pc := 123) (a' := 0) (b' := 0) (As := []) (ci := 6) C (c_M_greys C.s hg h) o_M_greys rfl (lay_O hg rfl) (k_851 C.w) rfl ⟨by decide, by decide, by decide, by decide⟩ rfl rfl (Nat.le_of_ble_eq_true rfl) d_M_figure_123 rfl ?_
      intro r7 μ6 h
      exact r_iret (pc := 126) C Q d_M_figure_126 (by decide) (by decide) h
    replace h := h.2.2.2.2.2.2.2.2.2 hs0 hs1 hs2 hs3 hs4 hs5 hs6 hs7 hs8
    refine r_tout (tgt := 127) (N := 8) (pc := 20) C d_M_figure_20 (by decide) (fun n hn => ?_) (by decide) ?_
    · match n, hn with
      | 0, _ => exact hs0
      | 1, _ => exact hs1
      | 2, _ => exact hs2
      | 3, _ => exact hs3
      | 4, _ => exact hs4
      | 5, _ => exact hs5
      | 6, _ => exact hs6
      | 7, _ => exact hs7
      | 8, _ => exact hs8
      | n + 9, hn => exact absurd hn (by omega)
    refine r_iconst (pc := 127) C d_M_figure_127 (v := 0) (by decide) ?_
    exact r_iret (pc := 128) C Q d_M_figure_128 (by decide) (by decide) h
  have J_15 : ∀ (l1 : Int32) (μ : Mem), wM_figure_15 l1 post μ → Rn K G 2 15 [(0, .inr (.inl (some 17))), (1, .inl l1)] [rv G (some 17)] μ 0 0 := by
    intro l1 μ h
    unfold wM_figure_15 at h
    refine r_iconst (pc := 15) C d_M_figure_15 (v := 1) (by decide) ?_
    exact J_16 l1 1 μ h
  unfold wM_figure at h
  refine r_aload_n (pc := 0) C d_M_figure_0 rfl 0 rfl ?_
  refine r_iload_n (pc := 1) C d_M_figure_1 rfl 1 rfl ?_
  refine r_if_lt (tgt := 15) (pc := 2) C d_M_figure_2 (by decide) ?_ ?_
  · intro hc; replace h := h.1 hc
    exact J_15 a1 μ h
  · intro hc; replace h := h.2 hc
    refine r_iload_n (pc := 5) C d_M_figure_5 rfl 1 rfl ?_
    refine r_bipush (pc := 6) C d_M_figure_6 (v := 8) (by decide) ?_
    refine r_icmp_gt (tgt := 15) (pc := 8) C d_M_figure_8 (by decide) ?_ ?_
    · intro hc; replace h := h.1 hc
      exact J_15 a1 μ h
    · intro hc; replace h := h.2 hc
      refine r_iconst (pc := 11) C d_M_figure_11 (v := 0) (by decide) ?_
      refine r_goto (tgt := 16) (pc := 12) C d_M_figure_12 (by decide) ?_
      exact J_16 a1 0 μ h
theorem c_L_allocate {l : Launch} (hl : l.stackTraces = false) {G : Gl} (hg : gf G = true) {a2 : Int32} {a3 : Int32} {a4 : Int32} {post : Int32 → Mem → Prop} {μ : Mem} (h : wL_allocate a2 a3 a4 post μ) : CtW l G i_L_allocate h_L_allocate [.inr (.inl (some 0)), .inl a2, .inl a3, .inl a4, .inr (.inl (some 34))] μ (poI post) noX := by
  refine ctw_of hl (by decide) (Nat.le_of_ble_eq_true rfl) ?_
  intro K hKl C Q hE
  clear hl hKl
  replace C : Cx K G method_3_code "LineCollectorLaw" 6 { frames := 8, cells := 3, slots := 31, locals := 178 } := C
  replace Q : Cq K G { frames := 8, cells := 3, slots := 31, locals := 178 } (some .int) (poI post) noX := Q
  show Rn K G 6 0 [(0, .inr (.inl (some 0))), (1, .inl a2), (2, .inl a3), (3, .inl a4), (4, .inr (.inl (some 34)))] [] μ 0 0
  unfold wL_allocate at h
  refine r_aload (pc := 0) C d_L_allocate_0 4 rfl ?_
  refine r_iconst (pc := 2) C d_L_allocate_2 (v := 0) (by decide) ?_
  refine r_aload_n (pc := 3) C d_L_allocate_3 rfl 0 rfl ?_
  refine r_iload_n (pc := 4) C d_L_allocate_4 rfl 1 rfl ?_
  refine r_iload_n (pc := 5) C d_L_allocate_5 rfl 2 rfl ?_
  refine r_iload_n (pc := 6) C d_L_allocate_6 rfl 3 rfl ?_
  refine r_cVci (pc := 7) (a' := 3) (b' := 31) (As := [.inl a2, .inl a3, .inl a4]) (ci := 0) C hE (c_C_allocate C.s hg h) o_C_allocate rfl (lay_O hg rfl) (k_351 C.w) rfl ⟨by decide, by decide, by decide, by decide⟩ rfl rfl (Nat.le_of_ble_eq_true rfl) d_L_allocate_7 rfl ?_ ?_
  · intro r2 μ1 h
    refine r_i2l (pc := 10) C d_L_allocate_10 ?_
    obtain ⟨b3, h⟩ := h
    refine r_last (pc := 11) C (lay_A hg rfl) b3 d_L_allocate_11 ?_
    intro μ4 eμ4; replace h := h μ4 eμ4
    refine r_goto (tgt := 23) (pc := 12) C d_L_allocate_12 (by decide) ?_
    refine r_iconst (pc := 23) C d_L_allocate_23 (v := 0) (by decide) ?_
    exact r_iret (pc := 24) C Q d_L_allocate_24 (by decide) (by decide) h
  · intro q5 μ6 h
    by_cases hq0 : q5 = 7
    · subst hq0; replace h := h.1 rfl
      refine ⟨"java/lang/IllegalArgumentException", 15, rfl, ⟨⟨by decide, by decide, by decide⟩, _, k_349 C.w, Or.inl ⟨k_360 C.w, rfl⟩⟩, fun z7 => ?_⟩
      refine r_astore (pc := 15) (lv' := [(0, .inr (.inl (some 0))), (1, .inl a2), (2, .inl a3), (3, .inl a4), (4, .inr (.inl (some 34)))]) C d_L_allocate_15 (by decide) rfl ?_
      refine r_iconst (pc := 17) C d_L_allocate_17 (v := 1) (by decide) ?_
      exact r_iret (pc := 18) C Q d_L_allocate_18 (by decide) (by decide) h
    by_cases hq1 : q5 = 10
    · subst hq1; replace h := h.2.1 rfl
      refine ⟨"java/lang/UnsupportedOperationException", 19, rfl, ⟨⟨by decide, by decide, by decide⟩, _, k_349 C.w, Or.inr ⟨C.nc 0 rfl, ⟨⟨by decide, by decide, by decide⟩, _, k_350 C.w, Or.inl ⟨k_441 C.w, rfl⟩⟩⟩⟩, fun z8 => ?_⟩
      refine r_astore (pc := 19) (lv' := [(0, .inr (.inl (some 0))), (1, .inl a2), (2, .inl a3), (3, .inl a4), (4, .inr (.inl (some 34)))]) C d_L_allocate_19 (by decide) rfl ?_
      refine r_iconst (pc := 21) C d_L_allocate_21 (v := 2) (by decide) ?_
      exact r_iret (pc := 22) C Q d_L_allocate_22 (by decide) (by decide) h
    exact (h.2.2 hq0 hq1).elim
theorem c_L_drop {l : Launch} (hl : l.stackTraces = false) {G : Gl} (hg : gf G = true) {a2 : Int32} {post : Int32 → Mem → Prop} {μ : Mem} (h : wL_drop a2 post μ) : CtW l G i_L_drop h_L_drop [.inr (.inl (some 0)), .inl a2] μ (poI post) noX := by
  refine ctw_of hl (by decide) (Nat.le_of_ble_eq_true rfl) ?_
  intro K hKl C Q hE
  clear hl hKl
  replace C : Cx K G method_4_code "LineCollectorLaw" 3 { frames := 7, cells := 1, slots := 6, locals := 102 } := C
  replace Q : Cq K G { frames := 7, cells := 1, slots := 6, locals := 102 } (some .int) (poI post) noX := Q
  show Rn K G 3 0 [(0, .inr (.inl (some 0))), (1, .inl a2)] [] μ 0 0
  unfold wL_drop at h
  refine r_aload_n (pc := 0) C d_L_drop_0 rfl 0 rfl ?_
  refine r_iload_n (pc := 1) C d_L_drop_1 rfl 1 rfl ?_
  refine r_cVcv (pc := 2) (a' := 1) (b' := 6) (As := [.inl a2]) (ci := 0) C hE (c_C_drop C.s hg h) o_C_drop rfl (lay_O hg rfl) (k_493 C.w) rfl ⟨by decide, by decide, by decide, by decide⟩ rfl rfl (Nat.le_of_ble_eq_true rfl) d_L_drop_2 rfl ?_ ?_
  · intro μ1 h
    refine r_goto (tgt := 11) (pc := 5) C d_L_drop_5 (by decide) ?_
    refine r_iconst (pc := 11) C d_L_drop_11 (v := 0) (by decide) ?_
    exact r_iret (pc := 12) C Q d_L_drop_12 (by decide) (by decide) h
  · intro q2 μ3 h
    by_cases hq0 : q2 = 7
    · subst hq0; replace h := h.1 rfl
      refine ⟨"java/lang/IllegalArgumentException", 8, rfl, ⟨⟨by decide, by decide, by decide⟩, _, k_349 C.w, Or.inl ⟨k_360 C.w, rfl⟩⟩, fun z4 => ?_⟩
      refine r_astore_n (pc := 8) (lv' := [(0, .inr (.inl (some 0))), (1, .inl a2)]) C d_L_drop_8 rfl (by decide) rfl ?_
      refine r_iconst (pc := 9) C d_L_drop_9 (v := 1) (by decide) ?_
      exact r_iret (pc := 10) C Q d_L_drop_10 (by decide) (by decide) h
    exact (h.2 hq0).elim
theorem c_L_copy {l : Launch} (hl : l.stackTraces = false) {G : Gl} (hg : gf G = true) {a2 : Int32} {a3 : Int32} {post : Int32 → Mem → Prop} {μ : Mem} (h : wL_copy a2 a3 post μ) : CtW l G i_L_copy h_L_copy [.inr (.inl (some 0)), .inl a2, .inl a3] μ (poI post) noX := by
  refine ctw_of hl (by decide) (Nat.le_of_ble_eq_true rfl) ?_
  intro K hKl C Q hE
  clear hl hKl
  replace C : Cx K G method_5_code "LineCollectorLaw" 4 { frames := 7, cells := 1, slots := 6, locals := 103 } := C
  replace Q : Cq K G { frames := 7, cells := 1, slots := 6, locals := 103 } (some .int) (poI post) noX := Q
  show Rn K G 4 0 [(0, .inr (.inl (some 0))), (1, .inl a2), (2, .inl a3)] [] μ 0 0
  unfold wL_copy at h
  refine r_aload_n (pc := 0) C d_L_copy_0 rfl 0 rfl ?_
  refine r_iload_n (pc := 1) C d_L_copy_1 rfl 1 rfl ?_
  refine r_iload_n (pc := 2) C d_L_copy_2 rfl 2 rfl ?_
  refine r_cVcv (pc := 3) (a' := 1) (b' := 6) (As := [.inl a2, .inl a3]) (ci := 0) C hE (c_C_copy C.s hg h) o_C_copy rfl (lay_O hg rfl) (k_500 C.w) rfl ⟨by decide, by decide, by decide, by decide⟩ rfl rfl (Nat.le_of_ble_eq_true rfl) d_L_copy_3 rfl ?_ ?_
  · intro μ1 h
    refine r_goto (tgt := 12) (pc := 6) C d_L_copy_6 (by decide) ?_
    refine r_iconst (pc := 12) C d_L_copy_12 (v := 0) (by decide) ?_
    exact r_iret (pc := 13) C Q d_L_copy_13 (by decide) (by decide) h
  · intro q2 μ3 h
    by_cases hq0 : q2 = 7
    · subst hq0; replace h := h.1 rfl
      refine ⟨"java/lang/IllegalArgumentException", 9, rfl, ⟨⟨by decide, by decide, by decide⟩, _, k_349 C.w, Or.inl ⟨k_360 C.w, rfl⟩⟩, fun z4 => ?_⟩
      refine r_astore_n (pc := 9) (lv' := [(0, .inr (.inl (some 0))), (1, .inl a2), (2, .inl a3)]) C d_L_copy_9 rfl (by decide) rfl ?_
      refine r_iconst (pc := 10) C d_L_copy_10 (v := 1) (by decide) ?_
      exact r_iret (pc := 11) C Q d_L_copy_11 (by decide) (by decide) h
    exact (h.2 hq0).elim
theorem c_L_load {l : Launch} (hl : l.stackTraces = false) {G : Gl} (hg : gf G = true) {a2 : Int32} {a3 : Int32} {a4 : Int32} {post : Int32 → Mem → Prop} {μ : Mem} (h : wL_load a2 a3 a4 post μ) : CtW l G i_L_load h_L_load [.inr (.inl (some 0)), .inl a2, .inl a3, .inl a4, .inr (.inl (some 34))] μ (poI post) noX := by
  refine ctw_of hl (by decide) (Nat.le_of_ble_eq_true rfl) ?_
  intro K hKl C Q hE
  clear hl hKl
  replace C : Cx K G method_6_code "LineCollectorLaw" 6 { frames := 8, cells := 1, slots := 6, locals := 129 } := C
  replace Q : Cq K G { frames := 8, cells := 1, slots := 6, locals := 129 } (some .int) (poI post) noX := Q
  show Rn K G 6 0 [(0, .inr (.inl (some 0))), (1, .inl a2), (2, .inl a3), (3, .inl a4), (4, .inr (.inl (some 34)))] [] μ 0 0
  unfold wL_load at h
  refine r_aload (pc := 0) C d_L_load_0 4 rfl ?_
  refine r_iconst (pc := 2) C d_L_load_2 (v := 0) (by decide) ?_
  refine r_aload_n (pc := 3) C d_L_load_3 rfl 0 rfl ?_
  refine r_iload_n (pc := 4) C d_L_load_4 rfl 1 rfl ?_
  refine r_iload_n (pc := 5) C d_L_load_5 rfl 2 rfl ?_
  refine r_iload_n (pc := 6) C d_L_load_6 rfl 3 rfl ?_
  refine r_cVci (pc := 7) (a' := 1) (b' := 6) (As := [.inl a2, .inl a3, .inl a4]) (ci := 0) C hE (c_C_load C.s hg h) o_C_load rfl (lay_O hg rfl) (k_509 C.w) rfl ⟨by decide, by decide, by decide, by decide⟩ rfl rfl (Nat.le_of_ble_eq_true rfl) d_L_load_7 rfl ?_ ?_
  · intro r2 μ1 h
    refine r_i2l (pc := 10) C d_L_load_10 ?_
    obtain ⟨b3, h⟩ := h
    refine r_last (pc := 11) C (lay_A hg rfl) b3 d_L_load_11 ?_
    intro μ4 eμ4; replace h := h μ4 eμ4
    refine r_goto (tgt := 27) (pc := 12) C d_L_load_12 (by decide) ?_
    refine r_iconst (pc := 27) C d_L_load_27 (v := 0) (by decide) ?_
    exact r_iret (pc := 28) C Q d_L_load_28 (by decide) (by decide) h
  · intro q5 μ6 h
    by_cases hq0 : q5 = 7
    · subst hq0; replace h := h.1 rfl
      refine ⟨"java/lang/IllegalArgumentException", 15, rfl, ⟨⟨by decide, by decide, by decide⟩, _, k_349 C.w, Or.inl ⟨k_360 C.w, rfl⟩⟩, fun z7 => ?_⟩
      refine r_astore (pc := 15) (lv' := [(0, .inr (.inl (some 0))), (1, .inl a2), (2, .inl a3), (3, .inl a4), (4, .inr (.inl (some 34)))]) C d_L_load_15 (by decide) rfl ?_
      refine r_iconst (pc := 17) C d_L_load_17 (v := 1) (by decide) ?_
      exact r_iret (pc := 18) C Q d_L_load_18 (by decide) (by decide) h
    by_cases hq1 : q5 = 8
    · subst hq1; replace h := h.2.1 rfl
      refine ⟨"java/lang/IllegalStateException", 19, rfl, ⟨⟨by decide, by decide, by decide⟩, _, k_349 C.w, Or.inr ⟨C.nc 1 rfl, ⟨⟨by decide, by decide, by decide⟩, _, k_507 C.w, Or.inl ⟨k_519 C.w, rfl⟩⟩⟩⟩, fun z8 => ?_⟩
      refine r_astore (pc := 19) (lv' := [(0, .inr (.inl (some 0))), (1, .inl a2), (2, .inl a3), (3, .inl a4), (4, .inr (.inl (some 34)))]) C d_L_load_19 (by decide) rfl ?_
      refine r_iconst (pc := 21) C d_L_load_21 (v := 2) (by decide) ?_
      exact r_iret (pc := 22) C Q d_L_load_22 (by decide) (by decide) h
    by_cases hq2 : q5 = 9
    · subst hq2; replace h := h.2.2.1 rfl
      refine ⟨"java/lang/IndexOutOfBoundsException", 23, rfl, ⟨⟨by decide, by decide, by decide⟩, _, k_349 C.w, Or.inr ⟨C.nc 2 rfl, ⟨⟨by decide, by decide, by decide⟩, _, k_507 C.w, Or.inr ⟨C.nc 3 rfl, ⟨⟨by decide, by decide, by decide⟩, _, k_508 C.w, Or.inl ⟨k_538 C.w, rfl⟩⟩⟩⟩⟩⟩, fun z9 => ?_⟩
      refine r_astore (pc := 23) (lv' := [(0, .inr (.inl (some 0))), (1, .inl a2), (2, .inl a3), (3, .inl a4), (4, .inr (.inl (some 34)))]) C d_L_load_23 (by decide) rfl ?_
      refine r_iconst (pc := 25) C d_L_load_25 (v := 3) (by decide) ?_
      exact r_iret (pc := 26) C Q d_L_load_26 (by decide) (by decide) h
    exact (h.2.2.2 hq0 hq1 hq2).elim
theorem c_L_store {l : Launch} (hl : l.stackTraces = false) {G : Gl} (hg : gf G = true) {a2 : Int32} {a3 : Int32} {a4 : Int32} {post : Int32 → Mem → Prop} {μ : Mem} (h : wL_store a2 a3 a4 post μ) : CtW l G i_L_store h_L_store [.inr (.inl (some 0)), .inl a2, .inl a3, .inl a4] μ (poI post) noX := by
  refine ctw_of hl (by decide) (Nat.le_of_ble_eq_true rfl) ?_
  intro K hKl C Q hE
  clear hl hKl
  replace C : Cx K G method_7_code "LineCollectorLaw" 5 { frames := 8, cells := 1, slots := 6, locals := 129 } := C
  replace Q : Cq K G { frames := 8, cells := 1, slots := 6, locals := 129 } (some .int) (poI post) noX := Q
  show Rn K G 5 0 [(0, .inr (.inl (some 0))), (1, .inl a2), (2, .inl a3), (3, .inl a4)] [] μ 0 0
  unfold wL_store at h
  refine r_aload_n (pc := 0) C d_L_store_0 rfl 0 rfl ?_
  refine r_iload_n (pc := 1) C d_L_store_1 rfl 1 rfl ?_
  refine r_iload_n (pc := 2) C d_L_store_2 rfl 2 rfl ?_
  refine r_iload_n (pc := 3) C d_L_store_3 rfl 3 rfl ?_
  refine r_cVcv (pc := 4) (a' := 1) (b' := 6) (As := [.inl a2, .inl a3, .inl a4]) (ci := 0) C hE (c_C_store C.s hg h) o_C_store rfl (lay_O hg rfl) (k_557 C.w) rfl ⟨by decide, by decide, by decide, by decide⟩ rfl rfl (Nat.le_of_ble_eq_true rfl) d_L_store_4 rfl ?_ ?_
  · intro μ1 h
    refine r_goto (tgt := 22) (pc := 7) C d_L_store_7 (by decide) ?_
    refine r_iconst (pc := 22) C d_L_store_22 (v := 0) (by decide) ?_
    exact r_iret (pc := 23) C Q d_L_store_23 (by decide) (by decide) h
  · intro q2 μ3 h
    by_cases hq0 : q2 = 7
    · subst hq0; replace h := h.1 rfl
      refine ⟨"java/lang/IllegalArgumentException", 10, rfl, ⟨⟨by decide, by decide, by decide⟩, _, k_349 C.w, Or.inl ⟨k_360 C.w, rfl⟩⟩, fun z4 => ?_⟩
      refine r_astore (pc := 10) (lv' := [(0, .inr (.inl (some 0))), (1, .inl a2), (2, .inl a3), (3, .inl a4)]) C d_L_store_10 (by decide) rfl ?_
      refine r_iconst (pc := 12) C d_L_store_12 (v := 1) (by decide) ?_
      exact r_iret (pc := 13) C Q d_L_store_13 (by decide) (by decide) h
    by_cases hq1 : q2 = 8
    · subst hq1; replace h := h.2.1 rfl
      refine ⟨"java/lang/IllegalStateException", 14, rfl, ⟨⟨by decide, by decide, by decide⟩, _, k_349 C.w, Or.inr ⟨C.nc 1 rfl, ⟨⟨by decide, by decide, by decide⟩, _, k_507 C.w, Or.inl ⟨k_519 C.w, rfl⟩⟩⟩⟩, fun z5 => ?_⟩
      refine r_astore (pc := 14) (lv' := [(0, .inr (.inl (some 0))), (1, .inl a2), (2, .inl a3), (3, .inl a4)]) C d_L_store_14 (by decide) rfl ?_
      refine r_iconst (pc := 16) C d_L_store_16 (v := 2) (by decide) ?_
      exact r_iret (pc := 17) C Q d_L_store_17 (by decide) (by decide) h
    by_cases hq2 : q2 = 9
    · subst hq2; replace h := h.2.2.1 rfl
      refine ⟨"java/lang/IndexOutOfBoundsException", 18, rfl, ⟨⟨by decide, by decide, by decide⟩, _, k_349 C.w, Or.inr ⟨C.nc 2 rfl, ⟨⟨by decide, by decide, by decide⟩, _, k_507 C.w, Or.inr ⟨C.nc 3 rfl, ⟨⟨by decide, by decide, by decide⟩, _, k_508 C.w, Or.inl ⟨k_538 C.w, rfl⟩⟩⟩⟩⟩⟩, fun z6 => ?_⟩
      refine r_astore (pc := 18) (lv' := [(0, .inr (.inl (some 0))), (1, .inl a2), (2, .inl a3), (3, .inl a4)]) C d_L_store_18 (by decide) rfl ?_
      refine r_iconst (pc := 20) C d_L_store_20 (v := 3) (by decide) ?_
      exact r_iret (pc := 21) C Q d_L_store_21 (by decide) (by decide) h
    exact (h.2.2.2 hq0 hq1 hq2).elim
theorem c_L_drain {l : Launch} (hl : l.stackTraces = false) {G : Gl} (hg : gf G = true) {a2 : Int32} {post : Int32 → Mem → Prop} {μ : Mem} (h : wL_drain a2 post μ) : CtW l G i_L_drain h_L_drain [.inr (.inl (some 0)), .inl a2, .inr (.inl (some 34))] μ (poI post) noX := by
  refine ctw_of hl (by decide) (Nat.le_of_ble_eq_true rfl) ?_
  intro K hKl C Q hE
  clear hl hKl
  replace C : Cx K G method_8_code "LineCollectorLaw" 4 { frames := 7, cells := 1, slots := 6, locals := 129 } := C
  replace Q : Cq K G { frames := 7, cells := 1, slots := 6, locals := 129 } (some .int) (poI post) noX := Q
  show Rn K G 4 0 [(0, .inr (.inl (some 0))), (1, .inl a2), (2, .inr (.inl (some 34)))] [] μ 0 0
  unfold wL_drain at h
  refine r_aload_n (pc := 0) C d_L_drain_0 rfl 2 rfl ?_
  refine r_iconst (pc := 1) C d_L_drain_1 (v := 0) (by decide) ?_
  refine r_aload_n (pc := 2) C d_L_drain_2 rfl 0 rfl ?_
  refine r_iload_n (pc := 3) C d_L_drain_3 rfl 1 rfl ?_
  refine r_cVci (pc := 4) (a' := 1) (b' := 6) (As := [.inl a2]) (ci := 0) C hE (c_C_drain C.s hg h) o_C_drain rfl (lay_O hg rfl) (k_568 C.w) rfl ⟨by decide, by decide, by decide, by decide⟩ rfl rfl (Nat.le_of_ble_eq_true rfl) d_L_drain_4 rfl ?_ ?_
  · intro r2 μ1 h
    refine r_i2l (pc := 7) C d_L_drain_7 ?_
    obtain ⟨b3, h⟩ := h
    refine r_last (pc := 8) C (lay_A hg rfl) b3 d_L_drain_8 ?_
    intro μ4 eμ4; replace h := h μ4 eμ4
    refine r_goto (tgt := 15) (pc := 9) C d_L_drain_9 (by decide) ?_
    refine r_iconst (pc := 15) C d_L_drain_15 (v := 0) (by decide) ?_
    exact r_iret (pc := 16) C Q d_L_drain_16 (by decide) (by decide) h
  · intro q5 μ6 h
    by_cases hq0 : q5 = 7
    · subst hq0; replace h := h.1 rfl
      refine ⟨"java/lang/IllegalArgumentException", 12, rfl, ⟨⟨by decide, by decide, by decide⟩, _, k_349 C.w, Or.inl ⟨k_360 C.w, rfl⟩⟩, fun z7 => ?_⟩
      refine r_astore_n (pc := 12) (lv' := [(0, .inr (.inl (some 0))), (1, .inl a2), (2, .inr (.inl (some 34)))]) C d_L_drain_12 rfl (by decide) rfl ?_
      refine r_iconst (pc := 13) C d_L_drain_13 (v := 1) (by decide) ?_
      exact r_iret (pc := 14) C Q d_L_drain_14 (by decide) (by decide) h
    exact (h.2 hq0).elim
theorem c_L_trace {l : Launch} (hl : l.stackTraces = false) {G : Gl} (hg : gf G = true) {a2 : Int32} {post : Int32 → Mem → Prop} {μ : Mem} (h : wL_trace a2 post μ) : CtW l G i_L_trace h_L_trace [.inr (.inl (some 0)), .inl a2, .inr (.inl (some 34))] μ (poI post) noX := by
  refine ctw_of hl (by decide) (Nat.le_of_ble_eq_true rfl) ?_
  intro K hKl C Q hE
  clear hl hKl
  replace C : Cx K G method_9_code "LineCollectorLaw" 4 { frames := 7, cells := 1, slots := 6, locals := 152 } := C
  replace Q : Cq K G { frames := 7, cells := 1, slots := 6, locals := 152 } (some .int) (poI post) noX := Q
  show Rn K G 4 0 [(0, .inr (.inl (some 0))), (1, .inl a2), (2, .inr (.inl (some 34)))] [] μ 0 0
  unfold wL_trace at h
  refine r_aload_n (pc := 0) C d_L_trace_0 rfl 2 rfl ?_
  refine r_iconst (pc := 1) C d_L_trace_1 (v := 0) (by decide) ?_
  refine r_aload_n (pc := 2) C d_L_trace_2 rfl 0 rfl ?_
  refine r_iload_n (pc := 3) C d_L_trace_3 rfl 1 rfl ?_
  refine r_cVci (pc := 4) (a' := 1) (b' := 6) (As := [.inl a2]) (ci := 0) C hE (c_C_trace C.s hg h) o_C_trace rfl (lay_O hg rfl) (k_575 C.w) rfl ⟨by decide, by decide, by decide, by decide⟩ rfl rfl (Nat.le_of_ble_eq_true rfl) d_L_trace_4 rfl ?_ ?_
  · intro r2 μ1 h
    refine r_i2l (pc := 7) C d_L_trace_7 ?_
    obtain ⟨b3, h⟩ := h
    refine r_last (pc := 8) C (lay_A hg rfl) b3 d_L_trace_8 ?_
    intro μ4 eμ4; replace h := h μ4 eμ4
    refine r_goto (tgt := 18) (pc := 9) C d_L_trace_9 (by decide) ?_
    refine r_iconst (pc := 18) C d_L_trace_18 (v := 0) (by decide) ?_
    exact r_iret (pc := 19) C Q d_L_trace_19 (by decide) (by decide) h
  · intro q5 μ6 h
    by_cases hq0 : q5 = 7
    · subst hq0; replace h := h.1 rfl
      refine ⟨"java/lang/IllegalArgumentException", 12, rfl, ⟨⟨by decide, by decide, by decide⟩, _, k_349 C.w, Or.inl ⟨k_360 C.w, rfl⟩⟩, fun z7 => ?_⟩
      refine r_astore_n (pc := 12) (lv' := [(0, .inr (.inl (some 0))), (1, .inl a2), (2, .inr (.inl (some 34)))]) C d_L_trace_12 rfl (by decide) rfl ?_
      refine r_iconst (pc := 13) C d_L_trace_13 (v := 1) (by decide) ?_
      exact r_iret (pc := 14) C Q d_L_trace_14 (by decide) (by decide) h
    by_cases hq1 : q5 = 8
    · subst hq1; replace h := h.2.1 rfl
      refine ⟨"java/lang/IllegalStateException", 15, rfl, ⟨⟨by decide, by decide, by decide⟩, _, k_349 C.w, Or.inr ⟨C.nc 1 rfl, ⟨⟨by decide, by decide, by decide⟩, _, k_507 C.w, Or.inl ⟨k_519 C.w, rfl⟩⟩⟩⟩, fun z8 => ?_⟩
      refine r_astore_n (pc := 15) (lv' := [(0, .inr (.inl (some 0))), (1, .inl a2), (2, .inr (.inl (some 34)))]) C d_L_trace_15 rfl (by decide) rfl ?_
      refine r_iconst (pc := 16) C d_L_trace_16 (v := 2) (by decide) ?_
      exact r_iret (pc := 17) C Q d_L_trace_17 (by decide) (by decide) h
    exact (h.2.2 hq0 hq1).elim
theorem c_L_root {l : Launch} (hl : l.stackTraces = false) {G : Gl} (hg : gf G = true) {a2 : Int32} {post : Int32 → Mem → Prop} {μ : Mem} (h : wL_root a2 post μ) : CtW l G i_L_root h_L_root [.inr (.inl (some 0)), .inl a2, .inr (.inl (some 34))] μ (poI post) noX := by
  refine ctw_of hl (by decide) (Nat.le_of_ble_eq_true rfl) ?_
  intro K hKl C Q hE
  clear hl hKl
  replace C : Cx K G method_10_code "LineCollectorLaw" 4 { frames := 7, cells := 1, slots := 6, locals := 102 } := C
  replace Q : Cq K G { frames := 7, cells := 1, slots := 6, locals := 102 } (some .int) (poI post) noX := Q
  show Rn K G 4 0 [(0, .inr (.inl (some 0))), (1, .inl a2), (2, .inr (.inl (some 34)))] [] μ 0 0
  unfold wL_root at h
  refine r_aload_n (pc := 0) C d_L_root_0 rfl 2 rfl ?_
  refine r_iconst (pc := 1) C d_L_root_1 (v := 0) (by decide) ?_
  refine r_aload_n (pc := 2) C d_L_root_2 rfl 0 rfl ?_
  refine r_iload_n (pc := 3) C d_L_root_3 rfl 1 rfl ?_
  refine r_cVci (pc := 4) (a' := 1) (b' := 6) (As := [.inl a2]) (ci := 0) C hE (c_C_root C.s hg h) o_C_root rfl (lay_O hg rfl) (k_582 C.w) rfl ⟨by decide, by decide, by decide, by decide⟩ rfl rfl (Nat.le_of_ble_eq_true rfl) d_L_root_4 rfl ?_ ?_
  · intro r2 μ1 h
    refine r_i2l (pc := 7) C d_L_root_7 ?_
    obtain ⟨b3, h⟩ := h
    refine r_last (pc := 8) C (lay_A hg rfl) b3 d_L_root_8 ?_
    intro μ4 eμ4; replace h := h μ4 eμ4
    refine r_goto (tgt := 15) (pc := 9) C d_L_root_9 (by decide) ?_
    refine r_iconst (pc := 15) C d_L_root_15 (v := 0) (by decide) ?_
    exact r_iret (pc := 16) C Q d_L_root_16 (by decide) (by decide) h
  · intro q5 μ6 h
    by_cases hq0 : q5 = 7
    · subst hq0; replace h := h.1 rfl
      refine ⟨"java/lang/IllegalArgumentException", 12, rfl, ⟨⟨by decide, by decide, by decide⟩, _, k_349 C.w, Or.inl ⟨k_360 C.w, rfl⟩⟩, fun z7 => ?_⟩
      refine r_astore_n (pc := 12) (lv' := [(0, .inr (.inl (some 0))), (1, .inl a2), (2, .inr (.inl (some 34)))]) C d_L_root_12 rfl (by decide) rfl ?_
      refine r_iconst (pc := 13) C d_L_root_13 (v := 1) (by decide) ?_
      exact r_iret (pc := 14) C Q d_L_root_14 (by decide) (by decide) h
    exact (h.2 hq0).elim
theorem c_L_field {l : Launch} (hl : l.stackTraces = false) {G : Gl} (hg : gf G = true) {a2 : Int32} {a3 : Int32} {post : Int32 → Mem → Prop} {μ : Mem} (h : wL_field a2 a3 post μ) : CtW l G i_L_field h_L_field [.inr (.inl (some 0)), .inl a2, .inl a3, .inr (.inl (some 34))] μ (poI post) noX := by
  refine ctw_of hl (by decide) (Nat.le_of_ble_eq_true rfl) ?_
  intro K hKl C Q hE
  clear hl hKl
  replace C : Cx K G method_11_code "LineCollectorLaw" 5 { frames := 7, cells := 1, slots := 6, locals := 104 } := C
  replace Q : Cq K G { frames := 7, cells := 1, slots := 6, locals := 104 } (some .int) (poI post) noX := Q
  show Rn K G 5 0 [(0, .inr (.inl (some 0))), (1, .inl a2), (2, .inl a3), (3, .inr (.inl (some 34)))] [] μ 0 0
  unfold wL_field at h
  refine r_aload_n (pc := 0) C d_L_field_0 rfl 3 rfl ?_
  refine r_iconst (pc := 1) C d_L_field_1 (v := 0) (by decide) ?_
  refine r_aload_n (pc := 2) C d_L_field_2 rfl 0 rfl ?_
  refine r_iload_n (pc := 3) C d_L_field_3 rfl 1 rfl ?_
  refine r_iload_n (pc := 4) C d_L_field_4 rfl 2 rfl ?_
  refine r_cVci (pc := 5) (a' := 1) (b' := 6) (As := [.inl a2, .inl a3]) (ci := 0) C hE (c_C_field C.s hg h) o_C_field rfl (lay_O hg rfl) (k_590 C.w) rfl ⟨by decide, by decide, by decide, by decide⟩ rfl rfl (Nat.le_of_ble_eq_true rfl) d_L_field_5 rfl ?_ ?_
  · intro r2 μ1 h
    refine r_i2l (pc := 8) C d_L_field_8 ?_
    obtain ⟨b3, h⟩ := h
    refine r_last (pc := 9) C (lay_A hg rfl) b3 d_L_field_9 ?_
    intro μ4 eμ4; replace h := h μ4 eμ4
    refine r_goto (tgt := 21) (pc := 10) C d_L_field_10 (by decide) ?_
    refine r_iconst (pc := 21) C d_L_field_21 (v := 0) (by decide) ?_
    exact r_iret (pc := 22) C Q d_L_field_22 (by decide) (by decide) h
  · intro q5 μ6 h
    by_cases hq0 : q5 = 11
    · subst hq0; replace h := h.1 rfl
      refine ⟨"java/util/NoSuchElementException", 13, rfl, ⟨⟨by decide, by decide, by decide⟩, _, k_589 C.w, Or.inl ⟨k_600 C.w, rfl⟩⟩, fun z7 => ?_⟩
      refine r_astore (pc := 13) (lv' := [(0, .inr (.inl (some 0))), (1, .inl a2), (2, .inl a3), (3, .inr (.inl (some 34)))]) C d_L_field_13 (by decide) rfl ?_
      refine r_iconst (pc := 15) C d_L_field_15 (v := 1) (by decide) ?_
      exact r_iret (pc := 16) C Q d_L_field_16 (by decide) (by decide) h
    by_cases hq1 : q5 = 9
    · subst hq1; replace h := h.2.1 rfl
      refine ⟨"java/lang/IndexOutOfBoundsException", 17, rfl, ⟨⟨by decide, by decide, by decide⟩, _, k_589 C.w, Or.inr ⟨C.nc 4 rfl, ⟨⟨by decide, by decide, by decide⟩, _, k_508 C.w, Or.inl ⟨k_538 C.w, rfl⟩⟩⟩⟩, fun z8 => ?_⟩
      refine r_astore (pc := 17) (lv' := [(0, .inr (.inl (some 0))), (1, .inl a2), (2, .inl a3), (3, .inr (.inl (some 34)))]) C d_L_field_17 (by decide) rfl ?_
      refine r_iconst (pc := 19) C d_L_field_19 (v := 2) (by decide) ?_
      exact r_iret (pc := 20) C Q d_L_field_20 (by decide) (by decide) h
    exact (h.2.2 hq0 hq1).elim
theorem c_L_object {l : Launch} (hl : l.stackTraces = false) {G : Gl} (hg : gf G = true) {a2 : Int32} {a3 : Int32} {post : Int32 → Mem → Prop} {μ : Mem} (h : wL_object a2 a3 post μ) : CtW l G i_L_object h_L_object [.inr (.inl (some 0)), .inl a2, .inl a3, .inr (.inl (some 34))] μ (poI post) noX := by
  refine ctw_of hl (by decide) (Nat.le_of_ble_eq_true rfl) ?_
  intro K hKl C Q hE
  clear hl hKl
  replace C : Cx K G method_12_code "LineCollectorLaw" 5 { frames := 7, cells := 1, slots := 6, locals := 104 } := C
  replace Q : Cq K G { frames := 7, cells := 1, slots := 6, locals := 104 } (some .int) (poI post) noX := Q
  show Rn K G 5 0 [(0, .inr (.inl (some 0))), (1, .inl a2), (2, .inl a3), (3, .inr (.inl (some 34)))] [] μ 0 0
  unfold wL_object at h
  refine r_aload_n (pc := 0) C d_L_object_0 rfl 3 rfl ?_
  refine r_iconst (pc := 1) C d_L_object_1 (v := 0) (by decide) ?_
  refine r_aload_n (pc := 2) C d_L_object_2 rfl 0 rfl ?_
  refine r_iload_n (pc := 3) C d_L_object_3 rfl 1 rfl ?_
  refine r_iload_n (pc := 4) C d_L_object_4 rfl 2 rfl ?_
  refine r_cVci (pc := 5) (a' := 1) (b' := 6) (As := [.inl a2, .inl a3]) (ci := 0) C hE (c_C_object C.s hg h) o_C_object rfl (lay_O hg rfl) (k_616 C.w) rfl ⟨by decide, by decide, by decide, by decide⟩ rfl rfl (Nat.le_of_ble_eq_true rfl) d_L_object_5 rfl ?_ ?_
  · intro r2 μ1 h
    refine r_i2l (pc := 8) C d_L_object_8 ?_
    obtain ⟨b3, h⟩ := h
    refine r_last (pc := 9) C (lay_A hg rfl) b3 d_L_object_9 ?_
    intro μ4 eμ4; replace h := h μ4 eμ4
    refine r_goto (tgt := 21) (pc := 10) C d_L_object_10 (by decide) ?_
    refine r_iconst (pc := 21) C d_L_object_21 (v := 0) (by decide) ?_
    exact r_iret (pc := 22) C Q d_L_object_22 (by decide) (by decide) h
  · intro q5 μ6 h
    by_cases hq0 : q5 = 7
    · subst hq0; replace h := h.1 rfl
      refine ⟨"java/lang/IllegalArgumentException", 13, rfl, ⟨⟨by decide, by decide, by decide⟩, _, k_349 C.w, Or.inl ⟨k_360 C.w, rfl⟩⟩, fun z7 => ?_⟩
      refine r_astore (pc := 13) (lv' := [(0, .inr (.inl (some 0))), (1, .inl a2), (2, .inl a3), (3, .inr (.inl (some 34)))]) C d_L_object_13 (by decide) rfl ?_
      refine r_iconst (pc := 15) C d_L_object_15 (v := 1) (by decide) ?_
      exact r_iret (pc := 16) C Q d_L_object_16 (by decide) (by decide) h
    by_cases hq1 : q5 = 11
    · subst hq1; replace h := h.2.1 rfl
      refine ⟨"java/util/NoSuchElementException", 17, rfl, ⟨⟨by decide, by decide, by decide⟩, _, k_349 C.w, Or.inr ⟨C.nc 5 rfl, ⟨⟨by decide, by decide, by decide⟩, _, k_589 C.w, Or.inl ⟨k_600 C.w, rfl⟩⟩⟩⟩, fun z8 => ?_⟩
      refine r_astore (pc := 17) (lv' := [(0, .inr (.inl (some 0))), (1, .inl a2), (2, .inl a3), (3, .inr (.inl (some 34)))]) C d_L_object_17 (by decide) rfl ?_
      refine r_iconst (pc := 19) C d_L_object_19 (v := 2) (by decide) ?_
      exact r_iret (pc := 20) C Q d_L_object_20 (by decide) (by decide) h
    exact (h.2.2 hq0 hq1).elim
theorem c_L_line {l : Launch} (hl : l.stackTraces = false) {G : Gl} (hg : gf G = true) {a2 : Int32} {post : Int32 → Mem → Prop} {μ : Mem} (h : wL_line a2 post μ) : CtW l G i_L_line h_L_line [.inr (.inl (some 0)), .inl a2, .inr (.inl (some 34))] μ (poI post) noX := by
  refine ctw_of hl (by decide) (Nat.le_of_ble_eq_true rfl) ?_
  intro K hKl C Q hE
  clear hl hKl
  replace C : Cx K G method_13_code "LineCollectorLaw" 4 { frames := 7, cells := 1, slots := 6, locals := 102 } := C
  replace Q : Cq K G { frames := 7, cells := 1, slots := 6, locals := 102 } (some .int) (poI post) noX := Q
  show Rn K G 4 0 [(0, .inr (.inl (some 0))), (1, .inl a2), (2, .inr (.inl (some 34)))] [] μ 0 0
  unfold wL_line at h
  refine r_aload_n (pc := 0) C d_L_line_0 rfl 2 rfl ?_
  refine r_iconst (pc := 1) C d_L_line_1 (v := 0) (by decide) ?_
  refine r_aload_n (pc := 2) C d_L_line_2 rfl 0 rfl ?_
  refine r_iload_n (pc := 3) C d_L_line_3 rfl 1 rfl ?_
  refine r_cVci (pc := 4) (a' := 1) (b' := 6) (As := [.inl a2]) (ci := 0) C hE (c_C_line C.s hg h) o_C_line rfl (lay_O hg rfl) (k_623 C.w) rfl ⟨by decide, by decide, by decide, by decide⟩ rfl rfl (Nat.le_of_ble_eq_true rfl) d_L_line_4 rfl ?_ ?_
  · intro r2 μ1 h
    refine r_i2l (pc := 7) C d_L_line_7 ?_
    obtain ⟨b3, h⟩ := h
    refine r_last (pc := 8) C (lay_A hg rfl) b3 d_L_line_8 ?_
    intro μ4 eμ4; replace h := h μ4 eμ4
    refine r_goto (tgt := 15) (pc := 9) C d_L_line_9 (by decide) ?_
    refine r_iconst (pc := 15) C d_L_line_15 (v := 0) (by decide) ?_
    exact r_iret (pc := 16) C Q d_L_line_16 (by decide) (by decide) h
  · intro q5 μ6 h
    by_cases hq0 : q5 = 9
    · subst hq0; replace h := h.1 rfl
      refine ⟨"java/lang/IndexOutOfBoundsException", 12, rfl, ⟨⟨by decide, by decide, by decide⟩, _, k_508 C.w, Or.inl ⟨k_538 C.w, rfl⟩⟩, fun z7 => ?_⟩
      refine r_astore_n (pc := 12) (lv' := [(0, .inr (.inl (some 0))), (1, .inl a2), (2, .inr (.inl (some 34)))]) C d_L_line_12 rfl (by decide) rfl ?_
      refine r_iconst (pc := 13) C d_L_line_13 (v := 1) (by decide) ?_
      exact r_iret (pc := 14) C Q d_L_line_14 (by decide) (by decide) h
    exact (h.2 hq0).elim
theorem c_L_figure {l : Launch} (hl : l.stackTraces = false) {G : Gl} (hg : gf G = true) {a2 : Int32} {post : Int32 → Mem → Prop} {μ : Mem} (h : wL_figure a2 post μ) : CtW l G i_L_figure h_L_figure [.inr (.inl (some 0)), .inl a2, .inr (.inl (some 34))] μ (poI post) noX := by
  refine ctw_of hl (by decide) (Nat.le_of_ble_eq_true rfl) ?_
  intro K hKl C Q hE
  clear hl hKl
  replace C : Cx K G method_14_code "LineCollectorLaw" 4 { frames := 7, cells := 1, slots := 6, locals := 102 } := C
  replace Q : Cq K G { frames := 7, cells := 1, slots := 6, locals := 102 } (some .int) (poI post) noX := Q
  show Rn K G 4 0 [(0, .inr (.inl (some 0))), (1, .inl a2), (2, .inr (.inl (some 34)))] [] μ 0 0
  unfold wL_figure at h
  refine r_aload_n (pc := 0) C d_L_figure_0 rfl 2 rfl ?_
  refine r_iconst (pc := 1) C d_L_figure_1 (v := 0) (by decide) ?_
  refine r_aload_n (pc := 2) C d_L_figure_2 rfl 0 rfl ?_
  refine r_iload_n (pc := 3) C d_L_figure_3 rfl 1 rfl ?_
  refine r_cVci (pc := 4) (a' := 1) (b' := 6) (As := [.inl a2]) (ci := 0) C hE (c_C_figure C.s hg h) o_C_figure rfl (lay_O hg rfl) (k_632 C.w) rfl ⟨by decide, by decide, by decide, by decide⟩ rfl rfl (Nat.le_of_ble_eq_true rfl) d_L_figure_4 rfl ?_ ?_
  · intro r2 μ1 h
    refine r_i2l (pc := 7) C d_L_figure_7 ?_
    obtain ⟨b3, h⟩ := h
    refine r_last (pc := 8) C (lay_A hg rfl) b3 d_L_figure_8 ?_
    intro μ4 eμ4; replace h := h μ4 eμ4
    refine r_goto (tgt := 15) (pc := 9) C d_L_figure_9 (by decide) ?_
    refine r_iconst (pc := 15) C d_L_figure_15 (v := 0) (by decide) ?_
    exact r_iret (pc := 16) C Q d_L_figure_16 (by decide) (by decide) h
  · intro q5 μ6 h
    by_cases hq0 : q5 = 7
    · subst hq0; replace h := h.1 rfl
      refine ⟨"java/lang/IllegalArgumentException", 12, rfl, ⟨⟨by decide, by decide, by decide⟩, _, k_349 C.w, Or.inl ⟨k_360 C.w, rfl⟩⟩, fun z7 => ?_⟩
      refine r_astore_n (pc := 12) (lv' := [(0, .inr (.inl (some 0))), (1, .inl a2), (2, .inr (.inl (some 34)))]) C d_L_figure_12 rfl (by decide) rfl ?_
      refine r_iconst (pc := 13) C d_L_figure_13 (v := 1) (by decide) ?_
      exact r_iret (pc := 14) C Q d_L_figure_14 (by decide) (by decide) h
    exact (h.2 hq0).elim
