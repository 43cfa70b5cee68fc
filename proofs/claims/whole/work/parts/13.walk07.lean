/-! The machine meets the predicates (written by a program) -/
theorem c_M_usedLines {l : Launch} (hl : l.stackTraces = false) {G : Gl} {a1 : Int32} {post : Int32 → Mem → Prop} {μ : Mem} (h : wM_usedLines a1 post μ) : Ct l G i_M_usedLines [.inr (.inl (some 17)), .inl a1] μ (poI post) noX := by
  refine ct_of hl (by decide) (Nat.le_of_ble_eq_true rfl) ?_
  intro K hKl C hE
  clear hl hKl
  replace C : Cx K G prog_8_method_33_code "LineCollectorModel" 4 { frames := 1, cells := 0, slots := 0, locals := 23 } (some .int) (poI post) noX := C
  show Rn K G 4 0 [(0, .inr (.inl (some 17))), (1, .inl a1)] [] μ 0 0
  have L_7 : ∀ (l1 : Int32) (k : Int32 → Int32 → Mem → Prop), (∀ (v2 : Int32) (v3 : Int32) (μ : Mem), k v2 v3 μ → Rn K G 4 40 [(2, .inl v2)] [] μ 0 0) → ∀ (n : Nat) (l2 : Int32) (l3 : Int32) (μ : Mem), wM_usedLines_7 l1 k n l2 l3 μ → Rn K G 4 7 [(0, .inr (.inl (some 17))), (1, .inl l1), (2, .inl l2), (3, .inl l3)] [] μ 0 0 := by
    intro l1 k hk n
    induction n with
    | zero => intro l2 l3 μ h; exact h.elim
    | succ n ih =>
      intro l2 l3 μ h
      unfold wM_usedLines_7 at h
      refine r_iload_n (pc := 7) C d_M_usedLines_7 rfl 3 rfl ?_
      refine r_bipush (pc := 8) C d_M_usedLines_8 (v := 8) (by decide) ?_
      refine r_iload_n (pc := 10) C d_M_usedLines_10 rfl 1 rfl ?_
      refine r_imul (pc := 11) C d_M_usedLines_11 ?_
      refine r_bipush (pc := 12) C d_M_usedLines_12 (v := 8) (by decide) ?_
      refine r_iadd (pc := 14) C d_M_usedLines_14 ?_
      refine r_icmp_ge (tgt := 40) (pc := 15) C d_M_usedLines_15 (by decide) ?_ ?_
      · intro hc; replace h := h.1 hc
        refine r_sub [2] rfl ?_
        exact hk l2 l3 μ h
      · intro hc; replace h := h.2 hc
        refine r_aload_n (pc := 18) C d_M_usedLines_18 rfl 0 rfl ?_
        refine r_iload_n (pc := 19) C d_M_usedLines_19 rfl 3 rfl ?_
        refine r_cVi (pc := 20) (a' := 0) (b' := 0) (As := [.inl l3]) (ci := 6) C (c_M_isUsed C.s h) o_M_isUsed rfl (lay_O rfl) (k_767 C.w) rfl ⟨by decide, by decide, by decide, by decide⟩ rfl rfl (Nat.le_of_ble_eq_true rfl) d_M_usedLines_20 rfl ?_
        intro r2 μ1 h
        refine r_if_eq (tgt := 32) (pc := 23) C d_M_usedLines_23 (by decide) ?_ ?_
        · intro hc; replace h := h.1 hc
          refine r_iload_n (pc := 32) C d_M_usedLines_32 rfl 2 rfl ?_
          refine r_istore_n (pc := 33) (lv' := [(0, .inr (.inl (some 17))), (1, .inl l1), (3, .inl l3)]) C d_M_usedLines_33 rfl (by decide) rfl ?_
          refine r_iinc (pc := 34) (v := 1) (lv' := [(2, .inl l2), (0, .inr (.inl (some 17))), (1, .inl l1)]) C d_M_usedLines_34 3 rfl (by decide) (by decide) rfl ?_
          refine r_goto (tgt := 7) (pc := 37) C d_M_usedLines_37 (by decide) ?_
          refine r_sub [2, 3, 1, 0] rfl ?_
          exact ih l2 (l3 + 1) μ1 h
        · intro hc; replace h := h.2 hc
          refine r_iload_n (pc := 26) C d_M_usedLines_26 rfl 2 rfl ?_
          refine r_iconst (pc := 27) C d_M_usedLines_27 (v := 1) (by decide) ?_
          refine r_iadd (pc := 28) C d_M_usedLines_28 ?_
          refine r_goto (tgt := 33) (pc := 29) C d_M_usedLines_29 (by decide) ?_
          refine r_istore_n (pc := 33) (lv' := [(0, .inr (.inl (some 17))), (1, .inl l1), (3, .inl l3)]) C d_M_usedLines_33 rfl (by decide) rfl ?_
          refine r_iinc (pc := 34) (v := 1) (lv' := [(2, .inl (l2 + 1)), (0, .inr (.inl (some 17))), (1, .inl l1)]) C d_M_usedLines_34 3 rfl (by decide) (by decide) rfl ?_
          refine r_goto (tgt := 7) (pc := 37) C d_M_usedLines_37 (by decide) ?_
          refine r_sub [2, 3, 1, 0] rfl ?_
          exact ih (l2 + 1) (l3 + 1) μ1 h
  unfold wM_usedLines at h
  refine r_iconst (pc := 0) C d_M_usedLines_0 (v := 0) (by decide) ?_
  refine r_istore_n (pc := 1) (lv' := [(0, .inr (.inl (some 17))), (1, .inl a1)]) C d_M_usedLines_1 rfl (by decide) rfl ?_
  refine r_bipush (pc := 2) C d_M_usedLines_2 (v := 8) (by decide) ?_
  refine r_iload_n (pc := 4) C d_M_usedLines_4 rfl 2 rfl ?_
  refine r_imul (pc := 5) C d_M_usedLines_5 ?_
  refine r_istore_n (pc := 6) (lv' := [(2, .inl 0), (0, .inr (.inl (some 17))), (1, .inl a1)]) C d_M_usedLines_6 rfl (by decide) rfl ?_
  obtain ⟨n6, h⟩ := h
  refine r_sub [2, 3, 1, 0] rfl ?_
  refine L_7 a1 _ ?_ n6 0 (8 * a1) μ h
  intro v4 v5 μ3 h
  refine r_iload_n (pc := 40) C d_M_usedLines_40 rfl 0 rfl ?_
  exact r_iret (pc := 41) C d_M_usedLines_41 (by decide) (by decide) h
theorem c_M_clearBlock {l : Launch} (hl : l.stackTraces = false) {G : Gl} {post : Mem → Prop} {μ : Mem} (h : wM_clearBlock post μ) : Ct l G i_M_clearBlock [.inr (.inl (some 17))] μ (poV post) noX := by
  refine ct_of hl (by decide) (Nat.le_of_ble_eq_true rfl) ?_
  intro K hKl C hE
  clear hl hKl
  replace C : Cx K G prog_8_method_34_code "LineCollectorModel" 4 { frames := 6, cells := 0, slots := 0, locals := 132 } (none) (poV post) noX := C
  show Rn K G 4 0 [(0, .inr (.inl (some 17)))] [] μ 0 0
  have L_4 : ∀ (k : Int32 → Int32 → Mem → Prop), (∀ (v1 : Int32) (v2 : Int32) (μ : Mem), k v1 v2 μ → Rn K G 4 44 [(0, .inr (.inl (some 17))), (1, .inl v1)] [] μ 0 0) → ∀ (n : Nat) (l1 : Int32) (l2 : Int32) (μ : Mem), wM_clearBlock_4 k n l1 l2 μ → Rn K G 4 4 [(0, .inr (.inl (some 17))), (1, .inl l1), (2, .inl l2)] [] μ 0 0 := by
    intro k hk n
    induction n with
    | zero => intro l1 l2 μ h; exact h.elim
    | succ n ih =>
      intro l1 l2 μ h
      unfold wM_clearBlock_4 at h
      refine r_iload_n (pc := 4) C d_M_clearBlock_4 rfl 2 rfl ?_
      refine r_if_lt (tgt := 44) (pc := 5) C d_M_clearBlock_5 (by decide) ?_ ?_
      · intro hc; replace h := h.1 hc
        refine r_sub [0, 1] rfl ?_
        exact hk l1 l2 μ h
      · intro hc; replace h := h.2 hc
        refine r_aload_n (pc := 8) C d_M_clearBlock_8 rfl 0 rfl ?_
        refine r_iload_n (pc := 9) C d_M_clearBlock_9 rfl 2 rfl ?_
        refine r_cVi (pc := 10) (a' := 0) (b' := 0) (As := [.inl l2]) (ci := 6) C (c_M_usedLines C.s h) o_M_usedLines rfl (lay_O rfl) (k_875 C.w) rfl ⟨by decide, by decide, by decide, by decide⟩ rfl rfl (Nat.le_of_ble_eq_true rfl) d_M_clearBlock_10 rfl ?_
        intro r2 μ1 h
        refine r_istore_n (pc := 13) (lv' := [(0, .inr (.inl (some 17))), (1, .inl l1), (2, .inl l2)]) C d_M_clearBlock_13 rfl (by decide) rfl ?_
        refine r_iload_n (pc := 14) C d_M_clearBlock_14 rfl 0 rfl ?_
        refine r_if_le (tgt := 38) (pc := 15) C d_M_clearBlock_15 (by decide) ?_ ?_
        · intro hc; replace h := h.1 hc
          refine r_iinc (pc := 38) (v := (-1)) (lv' := [(3, .inl r2), (0, .inr (.inl (some 17))), (1, .inl l1)]) C d_M_clearBlock_38 3 rfl (by decide) (by decide) rfl ?_
          refine r_goto (tgt := 4) (pc := 41) C d_M_clearBlock_41 (by decide) ?_
          refine r_sub [2, 3, 0] rfl ?_
          exact ih l1 (l2 + (-1)) μ1 h
        · intro hc; replace h := h.2 hc
          refine r_iload_n (pc := 18) C d_M_clearBlock_18 rfl 0 rfl ?_
          refine r_iconst (pc := 19) C d_M_clearBlock_19 (v := 4) (by decide) ?_
          refine r_icmp_ge (tgt := 38) (pc := 20) C d_M_clearBlock_20 (by decide) ?_ ?_
          · intro hc; replace h := h.1 hc
            refine r_iinc (pc := 38) (v := (-1)) (lv' := [(3, .inl r2), (0, .inr (.inl (some 17))), (1, .inl l1)]) C d_M_clearBlock_38 3 rfl (by decide) (by decide) rfl ?_
            refine r_goto (tgt := 4) (pc := 41) C d_M_clearBlock_41 (by decide) ?_
            refine r_sub [2, 3, 0] rfl ?_
            exact ih l1 (l2 + (-1)) μ1 h
          · intro hc; replace h := h.2 hc
            refine r_iload_n (pc := 23) C d_M_clearBlock_23 rfl 2 rfl ?_
            refine r_if_lt (tgt := 36) (pc := 24) C d_M_clearBlock_24 (by decide) ?_ ?_
            · intro hc; replace h := h.1 hc
              refine r_iload_n (pc := 36) C d_M_clearBlock_36 rfl 3 rfl ?_
              refine r_istore_n (pc := 37) (lv' := [(3, .inl r2), (0, .inr (.inl (some 17))), (2, .inl l2)]) C d_M_clearBlock_37 rfl (by decide) rfl ?_
              refine r_iinc (pc := 38) (v := (-1)) (lv' := [(1, .inl l2), (3, .inl r2), (0, .inr (.inl (some 17)))]) C d_M_clearBlock_38 3 rfl (by decide) (by decide) rfl ?_
              refine r_goto (tgt := 4) (pc := 41) C d_M_clearBlock_41 (by decide) ?_
              refine r_sub [3, 1, 0] rfl ?_
              exact ih l2 (l2 + (-1)) μ1 h
            · intro hc; replace h := h.2 hc
              refine r_iload_n (pc := 27) C d_M_clearBlock_27 rfl 0 rfl ?_
              refine r_aload_n (pc := 28) C d_M_clearBlock_28 rfl 1 rfl ?_
              refine r_iload_n (pc := 29) C d_M_clearBlock_29 rfl 2 rfl ?_
              refine r_cVi (pc := 30) (a' := 0) (b' := 0) (As := [.inl l1]) (ci := 6) C (c_M_usedLines C.s h) o_M_usedLines rfl (lay_O rfl) (k_875 C.w) rfl ⟨by decide, by decide, by decide, by decide⟩ rfl rfl (Nat.le_of_ble_eq_true rfl) d_M_clearBlock_30 rfl ?_
              intro r4 μ3 h
              refine r_icmp_gt (tgt := 38) (pc := 33) C d_M_clearBlock_33 (by decide) ?_ ?_
              · intro hc; replace h := h.1 hc
                refine r_iinc (pc := 38) (v := (-1)) (lv' := [(3, .inl r2), (0, .inr (.inl (some 17))), (1, .inl l1)]) C d_M_clearBlock_38 3 rfl (by decide) (by decide) rfl ?_
                refine r_goto (tgt := 4) (pc := 41) C d_M_clearBlock_41 (by decide) ?_
                refine r_sub [2, 3, 0] rfl ?_
                exact ih l1 (l2 + (-1)) μ3 h
              · intro hc; replace h := h.2 hc
                refine r_iload_n (pc := 36) C d_M_clearBlock_36 rfl 3 rfl ?_
                refine r_istore_n (pc := 37) (lv' := [(3, .inl r2), (0, .inr (.inl (some 17))), (2, .inl l2)]) C d_M_clearBlock_37 rfl (by decide) rfl ?_
                refine r_iinc (pc := 38) (v := (-1)) (lv' := [(1, .inl l2), (3, .inl r2), (0, .inr (.inl (some 17)))]) C d_M_clearBlock_38 3 rfl (by decide) (by decide) rfl ?_
                refine r_goto (tgt := 4) (pc := 41) C d_M_clearBlock_41 (by decide) ?_
                refine r_sub [3, 1, 0] rfl ?_
                exact ih l2 (l2 + (-1)) μ3 h
  have L_63 : ∀ (l1 : Int32) (k : Int32 → Mem → Prop), (∀ (v2 : Int32) (μ : Mem), k v2 μ → Rn K G 4 95 [(0, .inr (.inl (some 17)))] [] μ 0 0) → ∀ (n : Nat) (l2 : Int32) (μ : Mem), wM_clearBlock_63 l1 k n l2 μ → Rn K G 4 63 [(0, .inr (.inl (some 17))), (1, .inl l1), (2, .inl l2)] [] μ 0 0 := by
    intro l1 k hk n
    induction n with
    | zero => intro l2 μ h; exact h.elim
    | succ n ih =>
      intro l2 μ h
      unfold wM_clearBlock_63 at h
      refine r_iload_n (pc := 63) C d_M_clearBlock_63 rfl 2 rfl ?_
      refine r_bipush (pc := 64) C d_M_clearBlock_64 (v := 32) (by decide) ?_
      refine r_iload_n (pc := 66) C d_M_clearBlock_66 rfl 1 rfl ?_
      refine r_imul (pc := 67) C d_M_clearBlock_67 ?_
      refine r_bipush (pc := 68) C d_M_clearBlock_68 (v := 32) (by decide) ?_
      refine r_iadd (pc := 70) C d_M_clearBlock_70 ?_
      refine r_icmp_ge (tgt := 95) (pc := 71) C d_M_clearBlock_71 (by decide) ?_ ?_
      · intro hc; replace h := h.1 hc
        refine r_sub [0] rfl ?_
        exact hk l2 μ h
      · intro hc; replace h := h.2 hc
        refine r_aload_n (pc := 74) C d_M_clearBlock_74 rfl 0 rfl ?_
        refine r_iload_n (pc := 75) C d_M_clearBlock_75 rfl 2 rfl ?_
        refine r_cVi (pc := 76) (a' := 0) (b' := 0) (As := [.inl l2]) (ci := 6) C (c_M_objectAt C.s h) o_M_objectAt rfl (lay_O rfl) (k_859 C.w) rfl ⟨by decide, by decide, by decide, by decide⟩ rfl rfl (Nat.le_of_ble_eq_true rfl) d_M_clearBlock_76 rfl ?_
        intro r11 μ10 h
        refine r_istore_n (pc := 79) (lv' := [(0, .inr (.inl (some 17))), (1, .inl l1), (2, .inl l2)]) C d_M_clearBlock_79 rfl (by decide) rfl ?_
        refine r_iload_n (pc := 80) C d_M_clearBlock_80 rfl 0 rfl ?_
        refine r_if_lt (tgt := 89) (pc := 81) C d_M_clearBlock_81 (by decide) ?_ ?_
        · intro hc; replace h := h.1 hc
          refine r_iinc (pc := 89) (v := 1) (lv' := [(3, .inl r11), (0, .inr (.inl (some 17))), (1, .inl l1)]) C d_M_clearBlock_89 3 rfl (by decide) (by decide) rfl ?_
          refine r_goto (tgt := 63) (pc := 92) C d_M_clearBlock_92 (by decide) ?_
          refine r_sub [2, 3, 0] rfl ?_
          exact ih (l2 + 1) μ10 h
        · intro hc; replace h := h.2 hc
          refine r_aload_n (pc := 84) C d_M_clearBlock_84 rfl 1 rfl ?_
          refine r_iload_n (pc := 85) C d_M_clearBlock_85 rfl 0 rfl ?_
          refine r_cVv (pc := 86) (a' := 0) (b' := 0) (As := [.inl r11]) (ci := 6) C (c_M_shift C.s h) o_M_shift rfl (lay_O rfl) (k_835 C.w) rfl ⟨by decide, by decide, by decide, by decide⟩ rfl rfl (Nat.le_of_ble_eq_true rfl) d_M_clearBlock_86 rfl ?_
          intro μ12 h
          refine r_iinc (pc := 89) (v := 1) (lv' := [(3, .inl r11), (0, .inr (.inl (some 17))), (1, .inl l1)]) C d_M_clearBlock_89 3 rfl (by decide) (by decide) rfl ?_
          refine r_goto (tgt := 63) (pc := 92) C d_M_clearBlock_92 (by decide) ?_
          refine r_sub [2, 3, 0] rfl ?_
          exact ih (l2 + 1) μ12 h
  unfold wM_clearBlock at h
  refine r_iconst (pc := 0) C d_M_clearBlock_0 (v := (-1)) (by decide) ?_
  refine r_istore_n (pc := 1) (lv' := [(0, .inr (.inl (some 17)))]) C d_M_clearBlock_1 rfl (by decide) rfl ?_
  refine r_iconst (pc := 2) C d_M_clearBlock_2 (v := 3) (by decide) ?_
  refine r_istore_n (pc := 3) (lv' := [(1, .inl (-1)), (0, .inr (.inl (some 17)))]) C d_M_clearBlock_3 rfl (by decide) rfl ?_
  obtain ⟨n18, h⟩ := h
  refine r_sub [2, 1, 0] rfl ?_
  refine L_4 _ ?_ n18 (-1) 3 μ h
  intro v6 v7 μ5 h
  refine r_iload_n (pc := 44) C d_M_clearBlock_44 rfl 1 rfl ?_
  refine r_if_ge (tgt := 49) (pc := 45) C d_M_clearBlock_45 (by decide) ?_ ?_
  · intro hc; replace h := h.1 hc
    refine r_aload_n (pc := 49) C d_M_clearBlock_49 rfl 0 rfl ?_
    refine r_cVv (pc := 50) (a' := 0) (b' := 0) (As := []) (ci := 6) C (c_M_forget C.s h) o_M_forget rfl (lay_O rfl) (k_819 C.w) rfl ⟨by decide, by decide, by decide, by decide⟩ rfl rfl (Nat.le_of_ble_eq_true rfl) d_M_clearBlock_50 rfl ?_
    intro μ8 h
    refine r_aload_n (pc := 53) C d_M_clearBlock_53 rfl 0 rfl ?_
    refine r_iload_n (pc := 54) C d_M_clearBlock_54 rfl 1 rfl ?_
    refine r_putI (pc := 55) (ci := 6) C rfl 19 (by decide) (k_669 C.w) rfl rfl p_I (lay_O rfl) d_M_clearBlock_55 ?_
    intro μ9 eμ9; replace h := h μ9 eμ9
    refine r_bipush (pc := 58) C d_M_clearBlock_58 (v := 32) (by decide) ?_
    refine r_iload_n (pc := 60) C d_M_clearBlock_60 rfl 1 rfl ?_
    refine r_imul (pc := 61) C d_M_clearBlock_61 ?_
    refine r_istore_n (pc := 62) (lv' := [(0, .inr (.inl (some 17))), (1, .inl v6)]) C d_M_clearBlock_62 rfl (by decide) rfl ?_
    obtain ⟨n17, h⟩ := h
    refine r_sub [1, 2, 0] rfl ?_
    refine L_63 v6 _ ?_ n17 (32 * v6) μ9 h
    intro v14 μ13 h
    refine r_aload_n (pc := 95) C d_M_clearBlock_95 rfl 0 rfl ?_
    refine r_iconst (pc := 96) C d_M_clearBlock_96 (v := (-1)) (by decide) ?_
    refine r_putI (pc := 97) (ci := 6) C rfl 19 (by decide) (k_669 C.w) rfl rfl p_I (lay_O rfl) d_M_clearBlock_97 ?_
    intro μ15 eμ15; replace h := h μ15 eμ15
    refine r_aload_n (pc := 100) C d_M_clearBlock_100 rfl 0 rfl ?_
    refine r_cVv (pc := 101) (a' := 0) (b' := 0) (As := []) (ci := 6) C (c_M_endStep C.s h) o_M_endStep rfl (lay_O rfl) (k_843 C.w) rfl ⟨by decide, by decide, by decide, by decide⟩ rfl rfl (Nat.le_of_ble_eq_true rfl) d_M_clearBlock_101 rfl ?_
    intro μ16 h
    exact r_vret (pc := 104) C d_M_clearBlock_104 (by decide) (by decide) h
  · intro hc; replace h := h.2 hc
    exact r_vret (pc := 48) C d_M_clearBlock_48 (by decide) (by decide) h
theorem c_M_halt {l : Launch} (hl : l.stackTraces = false) {G : Gl} {a1 : Int32} {post : Int32 → Mem → Prop} {μ : Mem} (h : wM_halt a1 post μ) : Ct l G i_M_halt [.inr (.inl (some 17)), .inl a1] μ (poI post) noX := by
  refine ct_of hl (by decide) (Nat.le_of_ble_eq_true rfl) ?_
  intro K hKl C hE
  clear hl hKl
  replace C : Cx K G prog_8_method_35_code "LineCollectorModel" 4 { frames := 8, cells := 0, slots := 0, locals := 177 } (some .int) (poI post) noX := C
  show Rn K G 4 0 [(0, .inr (.inl (some 17))), (1, .inl a1)] [] μ 0 0
  have L_119 : ∀ (l2 : Int32) (k : Int32 → Mem → Prop), (∀ (v3 : Int32) (μ : Mem), k v3 μ → Rn K G 4 143 [(2, .inl l2)] [] μ 0 0) → ∀ (n : Nat) (l3 : Int32) (μ : Mem), wM_halt_119 k n l3 μ → Rn K G 4 119 [(0, .inr (.inl (some 17))), (2, .inl l2), (3, .inl l3)] [] μ 0 0 := by
    intro l2 k hk n
    induction n with
    | zero => intro l3 μ h; exact h.elim
    | succ n ih =>
      intro l3 μ h
      unfold wM_halt_119 at h
      refine r_iload_n (pc := 119) C d_M_halt_119 rfl 2 rfl ?_
      refine r_bipush (pc := 120) C d_M_halt_120 (v := 6) (by decide) ?_
      refine r_icmp_ge (tgt := 143) (pc := 122) C d_M_halt_122 (by decide) ?_ ?_
      · intro hc; replace h := h.1 hc
        refine r_sub [1] rfl ?_
        exact hk l3 μ h
      · intro hc; replace h := h.2 hc
        refine r_aload_n (pc := 125) C d_M_halt_125 rfl 0 rfl ?_
        refine r_getR (pc := 126) (ci := 6) C rfl 12 (by decide) (k_662 C.w) rfl (lay_O rfl) d_M_halt_126 ?_
        refine r_iload_n (pc := 129) C d_M_halt_129 rfl 2 rfl ?_
        refine r_aload_n (pc := 130) C d_M_halt_130 rfl 0 rfl ?_
        refine r_getR (pc := 131) (ci := 6) C rfl 11 (by decide) (k_661 C.w) rfl (lay_O rfl) d_M_halt_131 ?_
        refine r_iload_n (pc := 134) C d_M_halt_134 rfl 2 rfl ?_
        obtain ⟨b9, h⟩ := h
        refine r_iald (pc := 135) C (lay_A rfl) b9 d_M_halt_135 ?_
        refine r_iast (pc := 136) C (lay_A rfl) b9 d_M_halt_136 ?_
        intro μ10 eμ10; replace h := h μ10 eμ10
        refine r_iinc (pc := 137) (v := 1) (lv' := [(0, .inr (.inl (some 17))), (2, .inl l2)]) C d_M_halt_137 2 rfl (by decide) (by decide) rfl ?_
        refine r_goto (tgt := 119) (pc := 140) C d_M_halt_140 (by decide) ?_
        refine r_sub [1, 2, 0] rfl ?_
        exact ih (l3 + 1) μ10 h
  have J_103 : ∀ (l2 : Int32) (μ : Mem), wM_halt_103 l2 post μ → Rn K G 4 103 [(0, .inr (.inl (some 17))), (2, .inl l2)] [] μ 0 0 := by
    intro l2 μ h
    unfold wM_halt_103 at h
    refine r_aload_n (pc := 103) C d_M_halt_103 rfl 0 rfl ?_
    refine r_cVv (pc := 104) (a' := 0) (b' := 0) (As := []) (ci := 6) C (c_M_forget C.s h) o_M_forget rfl (lay_O rfl) (k_819 C.w) rfl ⟨by decide, by decide, by decide, by decide⟩ rfl rfl (Nat.le_of_ble_eq_true rfl) d_M_halt_104 rfl ?_
    intro μ7 h
    refine r_aload_n (pc := 107) C d_M_halt_107 rfl 0 rfl ?_
    refine r_dupR (pc := 108) C d_M_halt_108 ?_
    refine r_getI (pc := 109) (ci := 6) C rfl 28 (by decide) (k_678 C.w) rfl (lay_O rfl) d_M_halt_109 ?_
    refine r_iconst (pc := 112) C d_M_halt_112 (v := 1) (by decide) ?_
    refine r_iadd (pc := 113) C d_M_halt_113 ?_
    refine r_putI (pc := 114) (ci := 6) C rfl 28 (by decide) (k_678 C.w) rfl rfl p_I (lay_O rfl) d_M_halt_114 ?_
    intro μ8 eμ8; replace h := h μ8 eμ8
    refine r_iconst (pc := 117) C d_M_halt_117 (v := 0) (by decide) ?_
    refine r_istore_n (pc := 118) (lv' := [(0, .inr (.inl (some 17))), (2, .inl l2)]) C d_M_halt_118 rfl (by decide) rfl ?_
    obtain ⟨n13, h⟩ := h
    refine r_sub [1, 2, 0] rfl ?_
    refine L_119 l2 _ ?_ n13 0 μ8 h
    intro v12 μ11 h
    refine r_iload_n (pc := 143) C d_M_halt_143 rfl 0 rfl ?_
    exact r_iret (pc := 144) C d_M_halt_144 (by decide) (by decide) h
  have L_70 : ∀ (l2 : Int32) (k : Int32 → Mem → Prop), (∀ (v3 : Int32) (μ : Mem), k v3 μ → Rn K G 4 103 [(0, .inr (.inl (some 17))), (2, .inl l2)] [] μ 0 0) → ∀ (n : Nat) (l3 : Int32) (μ : Mem), wM_halt_70 k n l3 μ → Rn K G 4 70 [(0, .inr (.inl (some 17))), (2, .inl l2), (3, .inl l3)] [] μ 0 0 := by
    intro l2 k hk n
    induction n with
    | zero => intro l3 μ h; exact h.elim
    | succ n ih =>
      intro l3 μ h
      unfold wM_halt_70 at h
      refine r_iload_n (pc := 70) C d_M_halt_70 rfl 2 rfl ?_
      refine r_bipush (pc := 71) C d_M_halt_71 (v := 6) (by decide) ?_
      refine r_icmp_ge (tgt := 103) (pc := 73) C d_M_halt_73 (by decide) ?_ ?_
      · intro hc; replace h := h.1 hc
        refine r_sub [0, 1] rfl ?_
        exact hk l3 μ h
      · intro hc; replace h := h.2 hc
        refine r_aload_n (pc := 76) C d_M_halt_76 rfl 0 rfl ?_
        refine r_getR (pc := 77) (ci := 6) C rfl 11 (by decide) (k_661 C.w) rfl (lay_O rfl) d_M_halt_77 ?_
        refine r_iload_n (pc := 80) C d_M_halt_80 rfl 2 rfl ?_
        obtain ⟨b15, h⟩ := h
        refine r_iald (pc := 81) C (lay_A rfl) b15 d_M_halt_81 ?_
        refine r_if_lt (tgt := 97) (pc := 82) C d_M_halt_82 (by decide) ?_ ?_
        · intro hc; replace h := h.1 hc
          refine r_iinc (pc := 97) (v := 1) (lv' := [(0, .inr (.inl (some 17))), (2, .inl l2)]) C d_M_halt_97 2 rfl (by decide) (by decide) rfl ?_
          refine r_goto (tgt := 70) (pc := 100) C d_M_halt_100 (by decide) ?_
          refine r_sub [1, 2, 0] rfl ?_
          exact ih (l3 + 1) μ h
        · intro hc; replace h := h.2 hc
          refine r_aload_n (pc := 85) C d_M_halt_85 rfl 0 rfl ?_
          refine r_getR (pc := 86) (ci := 6) C rfl 7 (by decide) (k_657 C.w) rfl (lay_O rfl) d_M_halt_86 ?_
          refine r_aload_n (pc := 89) C d_M_halt_89 rfl 0 rfl ?_
          refine r_getR (pc := 90) (ci := 6) C rfl 11 (by decide) (k_661 C.w) rfl (lay_O rfl) d_M_halt_90 ?_
          refine r_iload_n (pc := 93) C d_M_halt_93 rfl 2 rfl ?_
          refine r_iald (pc := 94) C (lay_A rfl) b15 d_M_halt_94 ?_
          refine r_iconst (pc := 95) C d_M_halt_95 (v := 1) (by decide) ?_
          obtain ⟨b16, h⟩ := h
          refine r_iast (pc := 96) C (lay_A rfl) b16 d_M_halt_96 ?_
          intro μ17 eμ17; replace h := h μ17 eμ17
          refine r_iinc (pc := 97) (v := 1) (lv' := [(0, .inr (.inl (some 17))), (2, .inl l2)]) C d_M_halt_97 2 rfl (by decide) (by decide) rfl ?_
          refine r_goto (tgt := 70) (pc := 100) C d_M_halt_100 (by decide) ?_
          refine r_sub [1, 2, 0] rfl ?_
          exact ih (l3 + 1) μ17 h
  have J_52 : ∀ (l1 : Int32) (l2 : Int32) (μ : Mem), wM_halt_52 l1 l2 post μ → Rn K G 4 52 [(0, .inr (.inl (some 17))), (1, .inl l1), (2, .inl l2)] [] μ 0 0 := by
    intro l1 l2 μ h
    unfold wM_halt_52 at h
    refine r_iload_n (pc := 52) C d_M_halt_52 rfl 1 rfl ?_
    refine r_if_eq (tgt := 103) (pc := 53) C d_M_halt_53 (by decide) ?_ ?_
    · intro hc; replace h := h.1 hc
      refine r_sub [0, 2] rfl ?_
      exact J_103 l2 μ h
    · intro hc; replace h := h.2 hc
      refine r_aload_n (pc := 56) C d_M_halt_56 rfl 0 rfl ?_
      refine r_getI (pc := 57) (ci := 6) C rfl 27 (by decide) (k_677 C.w) rfl (lay_O rfl) d_M_halt_57 ?_
      refine r_if_ne (tgt := 103) (pc := 60) C d_M_halt_60 (by decide) ?_ ?_
      · intro hc; replace h := h.2 hc
        refine r_sub [0, 2] rfl ?_
        exact J_103 l2 μ h
      · intro hc; replace h := h.1 hc
        refine r_aload_n (pc := 63) C d_M_halt_63 rfl 0 rfl ?_
        refine r_iconst (pc := 64) C d_M_halt_64 (v := 1) (by decide) ?_
        refine r_putZ (pc := 65) (ci := 6) C rfl 27 (by decide) (k_677 C.w) rfl rfl p_Z (Or.inr rfl) (lay_O rfl) d_M_halt_65 ?_
        intro μ14 eμ14; replace h := h μ14 eμ14
        refine r_iconst (pc := 68) C d_M_halt_68 (v := 0) (by decide) ?_
        refine r_istore_n (pc := 69) (lv' := [(0, .inr (.inl (some 17))), (1, .inl l1), (2, .inl l2)]) C d_M_halt_69 rfl (by decide) rfl ?_
        obtain ⟨n20, h⟩ := h
        refine r_sub [1, 3, 0] rfl ?_
        refine L_70 l2 _ ?_ n20 0 μ14 h
        intro v19 μ18 h
        exact J_103 l2 μ18 h
  unfold wM_halt at h
  refine r_aload_n (pc := 0) C d_M_halt_0 rfl 0 rfl ?_
  refine r_cVv (pc := 1) (a' := 0) (b' := 0) (As := []) (ci := 6) C (c_M_drainAll C.s h) o_M_drainAll rfl (lay_O rfl) (k_791 C.w) rfl ⟨by decide, by decide, by decide, by decide⟩ rfl rfl (Nat.le_of_ble_eq_true rfl) d_M_halt_1 rfl ?_
  intro μ1 h
  refine r_aload_n (pc := 4) C d_M_halt_4 rfl 0 rfl ?_
  refine r_cVv (pc := 5) (a' := 0) (b' := 0) (As := []) (ci := 6) C (c_M_forget C.s h) o_M_forget rfl (lay_O rfl) (k_819 C.w) rfl ⟨by decide, by decide, by decide, by decide⟩ rfl rfl (Nat.le_of_ble_eq_true rfl) d_M_halt_5 rfl ?_
  intro μ2 h
  refine r_aload_n (pc := 8) C d_M_halt_8 rfl 0 rfl ?_
  refine r_cVi (pc := 9) (a' := 0) (b' := 0) (As := []) (ci := 6) C (c_M_countSlots C.s h) o_M_countSlots rfl (lay_O rfl) (k_823 C.w) rfl ⟨by decide, by decide, by decide, by decide⟩ rfl rfl (Nat.le_of_ble_eq_true rfl) d_M_halt_9 rfl ?_
  intro r4 μ3 h
  refine r_istore_n (pc := 12) (lv' := [(0, .inr (.inl (some 17))), (1, .inl a1)]) C d_M_halt_12 rfl (by decide) rfl ?_
  refine r_aload_n (pc := 13) C d_M_halt_13 rfl 1 rfl ?_
  refine r_cVv (pc := 14) (a' := 0) (b' := 0) (As := []) (ci := 6) C (c_M_endStep C.s h) o_M_endStep rfl (lay_O rfl) (k_843 C.w) rfl ⟨by decide, by decide, by decide, by decide⟩ rfl rfl (Nat.le_of_ble_eq_true rfl) d_M_halt_14 rfl ?_
  intro μ5 h
  refine r_aload_n (pc := 17) C d_M_halt_17 rfl 1 rfl ?_
  refine r_cVv (pc := 18) (a' := 0) (b' := 0) (As := []) (ci := 6) C (c_M_settle C.s h) o_M_settle rfl (lay_O rfl) (k_847 C.w) rfl ⟨by decide, by decide, by decide, by decide⟩ rfl rfl (Nat.le_of_ble_eq_true rfl) d_M_halt_18 rfl ?_
  intro μ6 h
  refine r_aload_n (pc := 21) C d_M_halt_21 rfl 1 rfl ?_
  refine r_getI (pc := 22) (ci := 6) C rfl 27 (by decide) (k_677 C.w) rfl (lay_O rfl) d_M_halt_22 ?_
  refine r_if_eq (tgt := 52) (pc := 25) C d_M_halt_25 (by decide) ?_ ?_
  · intro hc; replace h := h.1 hc
    refine r_sub [1, 2, 0] rfl ?_
    exact J_52 a1 r4 μ6 h
  · intro hc; replace h := h.2 hc
    refine r_aload_n (pc := 28) C d_M_halt_28 rfl 1 rfl ?_
    refine r_cVi (pc := 29) (a' := 0) (b' := 0) (As := []) (ci := 6) C (c_M_greys C.s h) o_M_greys rfl (lay_O rfl) (k_851 C.w) rfl ⟨by decide, by decide, by decide, by decide⟩ rfl rfl (Nat.le_of_ble_eq_true rfl) d_M_halt_29 rfl ?_
    intro r22 μ21 h
    refine r_if_ne (tgt := 52) (pc := 32) C d_M_halt_32 (by decide) ?_ ?_
    · intro hc; replace h := h.2 hc
      refine r_sub [1, 2, 0] rfl ?_
      exact J_52 a1 r4 μ21 h
    · intro hc; replace h := h.1 hc
      refine r_aload_n (pc := 35) C d_M_halt_35 rfl 1 rfl ?_
      refine r_cVv (pc := 36) (a' := 0) (b' := 0) (As := []) (ci := 6) C (c_M_sweep C.s h) o_M_sweep rfl (lay_O rfl) (k_855 C.w) rfl ⟨by decide, by decide, by decide, by decide⟩ rfl rfl (Nat.le_of_ble_eq_true rfl) d_M_halt_36 rfl ?_
      intro μ23 h
      refine r_aload_n (pc := 39) C d_M_halt_39 rfl 1 rfl ?_
      refine r_cVv (pc := 40) (a' := 0) (b' := 0) (As := []) (ci := 6) C (c_M_countAnew C.s h) o_M_countAnew rfl (lay_O rfl) (k_863 C.w) rfl ⟨by decide, by decide, by decide, by decide⟩ rfl rfl (Nat.le_of_ble_eq_true rfl) d_M_halt_40 rfl ?_
      intro μ24 h
      refine r_aload_n (pc := 43) C d_M_halt_43 rfl 1 rfl ?_
      refine r_cVv (pc := 44) (a' := 0) (b' := 0) (As := []) (ci := 6) C (c_M_clearBlock C.s h) o_M_clearBlock rfl (lay_O rfl) (k_871 C.w) rfl ⟨by decide, by decide, by decide, by decide⟩ rfl rfl (Nat.le_of_ble_eq_true rfl) d_M_halt_44 rfl ?_
      intro μ25 h
      refine r_aload_n (pc := 47) C d_M_halt_47 rfl 1 rfl ?_
      refine r_iconst (pc := 48) C d_M_halt_48 (v := 0) (by decide) ?_
      refine r_putZ (pc := 49) (ci := 6) C rfl 27 (by decide) (k_677 C.w) rfl rfl p_Z (Or.inl rfl) (lay_O rfl) d_M_halt_49 ?_
      intro μ26 eμ26; replace h := h μ26 eμ26
      refine r_sub [1, 2, 0] rfl ?_
      exact J_52 a1 r4 μ26 h
theorem c_M_collect {l : Launch} (hl : l.stackTraces = false) {G : Gl} {post : Mem → Prop} {μ : Mem} (h : wM_collect post μ) : Ct l G i_M_collect [.inr (.inl (some 17))] μ (poV post) noX := by
  refine ct_of hl (by decide) (Nat.le_of_ble_eq_true rfl) ?_
  intro K hKl C hE
  clear hl hKl
  replace C : Cx K G prog_8_method_36_code "LineCollectorModel" 1 { frames := 9, cells := 0, slots := 0, locals := 200 } (none) (poV post) noX := C
  show Rn K G 1 0 [(0, .inr (.inl (some 17)))] [] μ 0 0
  have L_6 : ∀ (k : Mem → Prop), (∀ (μ : Mem), k μ → Rn K G 1 20 [(0, .inr (.inl (some 17)))] [] μ 0 0) → ∀ (n : Nat) (μ : Mem), wM_collect_6 k n μ → Rn K G 1 6 [(0, .inr (.inl (some 17)))] [] μ 0 0 := by
    intro k hk n
    induction n with
    | zero => intro μ h; exact h.elim
    | succ n ih =>
      intro μ h
      unfold wM_collect_6 at h
      refine r_aload_n (pc := 6) C d_M_collect_6 rfl 0 rfl ?_
      refine r_cVi (pc := 7) (a' := 0) (b' := 0) (As := []) (ci := 6) C (c_M_greys C.s h) o_M_greys rfl (lay_O rfl) (k_851 C.w) rfl ⟨by decide, by decide, by decide, by decide⟩ rfl rfl (Nat.le_of_ble_eq_true rfl) d_M_collect_7 rfl ?_
      intro r4 μ3 h
      refine r_if_le (tgt := 20) (pc := 10) C d_M_collect_10 (by decide) ?_ ?_
      · intro hc; replace h := h.1 hc
        exact hk μ3 h
      · intro hc; replace h := h.2 hc
        refine r_aload_n (pc := 13) C d_M_collect_13 rfl 0 rfl ?_
        refine r_cVv (pc := 14) (a' := 0) (b' := 0) (As := []) (ci := 6) C (c_M_step C.s h) o_M_step rfl (lay_O rfl) (k_879 C.w) rfl ⟨by decide, by decide, by decide, by decide⟩ rfl rfl (Nat.le_of_ble_eq_true rfl) d_M_collect_14 rfl ?_
        intro μ5 h
        refine r_goto (tgt := 6) (pc := 17) C d_M_collect_17 (by decide) ?_
        exact ih μ5 h
  unfold wM_collect at h
  refine r_aload_n (pc := 0) C d_M_collect_0 rfl 0 rfl ?_
  refine r_iconst (pc := 1) C d_M_collect_1 (v := 1) (by decide) ?_
  refine r_cVi (pc := 2) (a' := 0) (b' := 0) (As := [.inl 1]) (ci := 6) C (c_M_halt C.s h) o_M_halt rfl (lay_O rfl) (k_787 C.w) rfl ⟨by decide, by decide, by decide, by decide⟩ rfl rfl (Nat.le_of_ble_eq_true rfl) d_M_collect_2 rfl ?_
  intro r2 μ1 h
  refine r_popI (pc := 5) C d_M_collect_5 ?_
  obtain ⟨n10, h⟩ := h
  refine L_6 _ ?_ n10 μ1 h
  intro μ6 h
  refine r_aload_n (pc := 20) C d_M_collect_20 rfl 0 rfl ?_
  refine r_iconst (pc := 21) C d_M_collect_21 (v := 0) (by decide) ?_
  refine r_cVi (pc := 22) (a' := 0) (b' := 0) (As := [.inl 0]) (ci := 6) C (c_M_halt C.s h) o_M_halt rfl (lay_O rfl) (k_787 C.w) rfl ⟨by decide, by decide, by decide, by decide⟩ rfl rfl (Nat.le_of_ble_eq_true rfl) d_M_collect_22 rfl ?_
  intro r8 μ7 h
  refine r_popI (pc := 25) C d_M_collect_25 ?_
  refine r_aload_n (pc := 26) C d_M_collect_26 rfl 0 rfl ?_
  refine r_cVv (pc := 27) (a' := 0) (b' := 0) (As := []) (ci := 6) C (c_M_drainAll C.s h) o_M_drainAll rfl (lay_O rfl) (k_791 C.w) rfl ⟨by decide, by decide, by decide, by decide⟩ rfl rfl (Nat.le_of_ble_eq_true rfl) d_M_collect_27 rfl ?_
  intro μ9 h
  exact r_vret (pc := 30) C d_M_collect_30 (by decide) (by decide) h
theorem c_M_isRoot {l : Launch} (hl : l.stackTraces = false) {G : Gl} {a1 : Int32} {post : Int32 → Mem → Prop} {μ : Mem} (h : wM_isRoot a1 post μ) : Ct l G i_M_isRoot [.inl a1] μ (poI post) noX := by
  refine ct_of hl (by decide) (Nat.le_of_ble_eq_true rfl) ?_
  intro K hKl C hE
  clear hl hKl
  replace C : Cx K G prog_8_method_37_code "LineCollectorModel" 1 { frames := 0, cells := 0, slots := 0, locals := 0 } (some .boolean) (poI post) noX := C
  show Rn K G 1 0 [(0, .inl a1)] [] μ 0 0
  unfold wM_isRoot at h
  refine r_iload_n (pc := 0) C d_M_isRoot_0 rfl 0 rfl ?_
  refine r_if_lt (tgt := 14) (pc := 1) C d_M_isRoot_1 (by decide) ?_ ?_
  · intro hc; replace h := h.1 hc
    refine r_iconst (pc := 14) C d_M_isRoot_14 (v := 0) (by decide) ?_
    exact r_zret (pc := 15) C (Or.inl rfl) d_M_isRoot_15 (by decide) (by decide) h
  · intro hc; replace h := h.2 hc
    refine r_iload_n (pc := 4) C d_M_isRoot_4 rfl 0 rfl ?_
    refine r_bipush (pc := 5) C d_M_isRoot_5 (v := 6) (by decide) ?_
    refine r_icmp_ge (tgt := 14) (pc := 7) C d_M_isRoot_7 (by decide) ?_ ?_
    · intro hc; replace h := h.1 hc
      refine r_iconst (pc := 14) C d_M_isRoot_14 (v := 0) (by decide) ?_
      exact r_zret (pc := 15) C (Or.inl rfl) d_M_isRoot_15 (by decide) (by decide) h
    · intro hc; replace h := h.2 hc
      refine r_iconst (pc := 10) C d_M_isRoot_10 (v := 1) (by decide) ?_
      refine r_goto (tgt := 15) (pc := 11) C d_M_isRoot_11 (by decide) ?_
      exact r_zret (pc := 15) C (Or.inr rfl) d_M_isRoot_15 (by decide) (by decide) h
theorem c_M_allocate {l : Launch} (hl : l.stackTraces = false) {G : Gl} {a1 : Int32} {a2 : Int32} {a3 : Int32} {post : Int32 → Mem → Prop} {μ : Mem} (h : wM_allocate a1 a2 a3 post μ) : Ct l G i_M_allocate [.inr (.inl (some 17)), .inl a1, .inl a2, .inl a3] μ (poI post) noX := by
  refine ct_of hl (by decide) (Nat.le_of_ble_eq_true rfl) ?_
  intro K hKl C hE
  clear hl hKl
  replace C : Cx K G prog_8_method_38_code "LineCollectorModel" 6 { frames := 10, cells := 0, slots := 0, locals := 220 } (some .int) (poI post) noX := C
  show Rn K G 6 0 [(0, .inr (.inl (some 17))), (1, .inl a1), (2, .inl a2), (3, .inl a3)] [] μ 0 0
  have J_59 : ∀ (l1 : Int32) (l2 : Int32) (l3 : Int32) (l4 : Int32) (μ : Mem), wM_allocate_59 l1 l2 l3 l4 post μ → Rn K G 6 59 [(0, .inr (.inl (some 17))), (1, .inl l1), (2, .inl l2), (3, .inl l3), (4, .inl l4)] [] μ 0 0 := by
    intro l1 l2 l3 l4 μ h
    unfold wM_allocate_59 at h
    refine r_iload (pc := 59) C d_M_allocate_59 4 rfl ?_
    refine r_if_ge (tgt := 71) (pc := 61) C d_M_allocate_61 (by decide) ?_ ?_
    · intro hc; replace h := h.1 hc
      refine r_aload_n (pc := 71) C d_M_allocate_71 rfl 0 rfl ?_
      refine r_iload_n (pc := 72) C d_M_allocate_72 rfl 2 rfl ?_
      refine r_iload_n (pc := 73) C d_M_allocate_73 rfl 3 rfl ?_
      refine r_cVi (pc := 74) (a' := 0) (b' := 0) (As := [.inl l2, .inl l3]) (ci := 6) C (c_M_make C.s h) o_M_make rfl (lay_O rfl) (k_883 C.w) rfl ⟨by decide, by decide, by decide, by decide⟩ rfl rfl (Nat.le_of_ble_eq_true rfl) d_M_allocate_74 rfl ?_
      intro r7 μ6 h
      refine r_istore (pc := 77) (lv' := [(0, .inr (.inl (some 17))), (1, .inl l1), (2, .inl l2), (3, .inl l3), (4, .inl l4)]) C d_M_allocate_77 (by decide) rfl ?_
      refine r_aload_n (pc := 79) C d_M_allocate_79 rfl 1 rfl ?_
      refine r_iload (pc := 80) C d_M_allocate_80 0 rfl ?_
      refine r_iload (pc := 82) C d_M_allocate_82 5 rfl ?_
      refine r_cVv (pc := 84) (a' := 0) (b' := 0) (As := [.inl r7, .inl l4]) (ci := 6) C (c_M_lay C.s h) o_M_lay rfl (lay_O rfl) (k_839 C.w) rfl ⟨by decide, by decide, by decide, by decide⟩ rfl rfl (Nat.le_of_ble_eq_true rfl) d_M_allocate_84 rfl ?_
      intro μ8 h
      refine r_aload_n (pc := 87) C d_M_allocate_87 rfl 1 rfl ?_
      refine r_getR (pc := 88) (ci := 6) C rfl 11 (by decide) (k_661 C.w) rfl (lay_O rfl) d_M_allocate_88 ?_
      refine r_iload_n (pc := 91) C d_M_allocate_91 rfl 2 rfl ?_
      refine r_iload (pc := 92) C d_M_allocate_92 0 rfl ?_
      obtain ⟨b9, h⟩ := h
      refine r_iast (pc := 94) C (lay_A rfl) b9 d_M_allocate_94 ?_
      intro μ10 eμ10; replace h := h μ10 eμ10
      refine r_iload (pc := 95) C d_M_allocate_95 5 rfl ?_
      exact r_iret (pc := 97) C d_M_allocate_97 (by decide) (by decide) h
    · intro hc; replace h := h.2 hc
      refine r_aload_n (pc := 64) C d_M_allocate_64 rfl 0 rfl ?_
      refine r_iconst (pc := 65) C d_M_allocate_65 (v := 2) (by decide) ?_
      refine r_putI (pc := 66) (ci := 6) C rfl 0 (by decide) (k_650 C.w) rfl rfl p_I (lay_O rfl) d_M_allocate_66 ?_
      intro μ11 eμ11; replace h := h μ11 eμ11
      refine r_iconst (pc := 69) C d_M_allocate_69 (v := 0) (by decide) ?_
      exact r_iret (pc := 70) C d_M_allocate_70 (by decide) (by decide) h
  have J_24 : ∀ (l1 : Int32) (l2 : Int32) (l3 : Int32) (t1 : Int32) (μ : Mem), wM_allocate_24 l1 l2 l3 t1 post μ → Rn K G 6 24 [(0, .inr (.inl (some 17))), (1, .inl l1), (2, .inl l2), (3, .inl l3)] [.int t1, rv G (some 17)] μ 0 0 := by
    intro l1 l2 l3 t1 μ h
    unfold wM_allocate_24 at h
    refine r_putI (pc := 24) (ci := 6) C rfl 0 (by decide) (k_650 C.w) rfl rfl p_I (lay_O rfl) d_M_allocate_24 ?_
    intro μ3 eμ3; replace h := h μ3 eμ3
    refine r_aload_n (pc := 27) C d_M_allocate_27 rfl 0 rfl ?_
    refine r_getI (pc := 28) (ci := 6) C rfl 0 (by decide) (k_650 C.w) rfl (lay_O rfl) d_M_allocate_28 ?_
    refine r_if_le (tgt := 36) (pc := 31) C d_M_allocate_31 (by decide) ?_ ?_
    · intro hc; replace h := h.1 hc
      refine r_aload_n (pc := 36) C d_M_allocate_36 rfl 0 rfl ?_
      refine r_iload_n (pc := 37) C d_M_allocate_37 rfl 2 rfl ?_
      refine r_cVi (pc := 38) (a' := 0) (b' := 0) (As := [.inl l2]) (ci := 6) C (c_M_place C.s h) o_M_place rfl (lay_O rfl) (k_755 C.w) rfl ⟨by decide, by decide, by decide, by decide⟩ rfl rfl (Nat.le_of_ble_eq_true rfl) d_M_allocate_38 rfl ?_
      intro r5 μ4 h
      refine r_istore (pc := 41) (lv' := [(0, .inr (.inl (some 17))), (1, .inl l1), (2, .inl l2), (3, .inl l3)]) C d_M_allocate_41 (by decide) rfl ?_
      refine r_iload (pc := 43) C d_M_allocate_43 0 rfl ?_
      refine r_if_ge (tgt := 59) (pc := 45) C d_M_allocate_45 (by decide) ?_ ?_
      · intro hc; replace h := h.1 hc
        refine r_sub [1, 2, 3, 4, 0] rfl ?_
        exact J_59 l1 l2 l3 r5 μ4 h
      · intro hc; replace h := h.2 hc
        refine r_aload_n (pc := 48) C d_M_allocate_48 rfl 1 rfl ?_
        refine r_cVv (pc := 49) (a' := 0) (b' := 0) (As := []) (ci := 6) C (c_M_collect C.s h) o_M_collect rfl (lay_O rfl) (k_783 C.w) rfl ⟨by decide, by decide, by decide, by decide⟩ rfl rfl (Nat.le_of_ble_eq_true rfl) d_M_allocate_49 rfl ?_
        intro μ12 h
        refine r_aload_n (pc := 52) C d_M_allocate_52 rfl 1 rfl ?_
        refine r_iload_n (pc := 53) C d_M_allocate_53 rfl 3 rfl ?_
        refine r_cVi (pc := 54) (a' := 0) (b' := 0) (As := [.inl l2]) (ci := 6) C (c_M_place C.s h) o_M_place rfl (lay_O rfl) (k_755 C.w) rfl ⟨by decide, by decide, by decide, by decide⟩ rfl rfl (Nat.le_of_ble_eq_true rfl) d_M_allocate_54 rfl ?_
        intro r14 μ13 h
        refine r_istore (pc := 57) (lv' := [(0, .inr (.inl (some 17))), (1, .inl l1), (2, .inl l2), (3, .inl l3)]) C d_M_allocate_57 (by decide) rfl ?_
        refine r_sub [1, 2, 3, 4, 0] rfl ?_
        exact J_59 l1 l2 l3 r14 μ13 h
    · intro hc; replace h := h.2 hc
      refine r_iconst (pc := 34) C d_M_allocate_34 (v := 0) (by decide) ?_
      exact r_iret (pc := 35) C d_M_allocate_35 (by decide) (by decide) h
  have J_23 : ∀ (l1 : Int32) (l2 : Int32) (l3 : Int32) (μ : Mem), wM_allocate_23 l1 l2 l3 post μ → Rn K G 6 23 [(0, .inr (.inl (some 17))), (1, .inl l1), (2, .inl l2), (3, .inl l3)] [rv G (some 17)] μ 0 0 := by
    intro l1 l2 l3 μ h
    unfold wM_allocate_23 at h
    refine r_iconst (pc := 23) C d_M_allocate_23 (v := 1) (by decide) ?_
    exact J_24 l1 l2 l3 1 μ h
  unfold wM_allocate at h
  refine r_aload_n (pc := 0) C d_M_allocate_0 rfl 0 rfl ?_
  refine r_iload_n (pc := 1) C d_M_allocate_1 rfl 1 rfl ?_
  refine r_cSi (pc := 2) (a' := 0) (b' := 0) (As := [.inl a1]) C (c_M_isRoot C.s h) o_M_isRoot (k_752 C.w) rfl ⟨by decide, by decide, by decide, by decide⟩ rfl rfl (Nat.le_of_ble_eq_true rfl) d_M_allocate_2 rfl ?_
  intro r2 μ1 h
  refine r_if_eq (tgt := 23) (pc := 5) C d_M_allocate_5 (by decide) ?_ ?_
  · intro hc; replace h := h.1 hc
    exact J_23 a1 a2 a3 μ1 h
  · intro hc; replace h := h.2 hc
    refine r_iload_n (pc := 8) C d_M_allocate_8 rfl 2 rfl ?_
    refine r_iconst (pc := 9) C d_M_allocate_9 (v := 1) (by decide) ?_
    refine r_icmp_lt (tgt := 23) (pc := 10) C d_M_allocate_10 (by decide) ?_ ?_
    · intro hc; replace h := h.1 hc
      exact J_23 a1 a2 a3 μ1 h
    · intro hc; replace h := h.2 hc
      refine r_iload_n (pc := 13) C d_M_allocate_13 rfl 2 rfl ?_
      refine r_bipush (pc := 14) C d_M_allocate_14 (v := 12) (by decide) ?_
      refine r_icmp_gt (tgt := 23) (pc := 16) C d_M_allocate_16 (by decide) ?_ ?_
      · intro hc; replace h := h.1 hc
        exact J_23 a1 a2 a3 μ1 h
      · intro hc; replace h := h.2 hc
        refine r_iconst (pc := 19) C d_M_allocate_19 (v := 0) (by decide) ?_
        refine r_goto (tgt := 24) (pc := 20) C d_M_allocate_20 (by decide) ?_
        exact J_24 a1 a2 a3 0 μ1 h
theorem c_M_drop {l : Launch} (hl : l.stackTraces = false) {G : Gl} {a1 : Int32} {post : Mem → Prop} {μ : Mem} (h : wM_drop a1 post μ) : Ct l G i_M_drop [.inr (.inl (some 17)), .inl a1] μ (poV post) noX := by
  refine ct_of hl (by decide) (Nat.le_of_ble_eq_true rfl) ?_
  intro K hKl C hE
  clear hl hKl
  replace C : Cx K G prog_8_method_39_code "LineCollectorModel" 2 { frames := 1, cells := 0, slots := 0, locals := 20 } (none) (poV post) noX := C
  show Rn K G 2 0 [(0, .inr (.inl (some 17))), (1, .inl a1)] [] μ 0 0
  have J_13 : ∀ (l1 : Int32) (t1 : Int32) (μ : Mem), wM_drop_13 l1 t1 post μ → Rn K G 2 13 [(0, .inr (.inl (some 17))), (1, .inl l1)] [.int t1, rv G (some 17)] μ 0 0 := by
    intro l1 t1 μ h
    unfold wM_drop_13 at h
    refine r_putI (pc := 13) (ci := 6) C rfl 0 (by decide) (k_650 C.w) rfl rfl p_I (lay_O rfl) d_M_drop_13 ?_
    intro μ3 eμ3; replace h := h μ3 eμ3
    refine r_aload_n (pc := 16) C d_M_drop_16 rfl 0 rfl ?_
    refine r_getI (pc := 17) (ci := 6) C rfl 0 (by decide) (k_650 C.w) rfl (lay_O rfl) d_M_drop_17 ?_
    refine r_if_ne (tgt := 30) (pc := 20) C d_M_drop_20 (by decide) ?_ ?_
    · intro hc; replace h := h.2 hc
      exact r_vret (pc := 30) C d_M_drop_30 (by decide) (by decide) h
    · intro hc; replace h := h.1 hc
      refine r_aload_n (pc := 23) C d_M_drop_23 rfl 0 rfl ?_
      refine r_getR (pc := 24) (ci := 6) C rfl 11 (by decide) (k_661 C.w) rfl (lay_O rfl) d_M_drop_24 ?_
      refine r_iload_n (pc := 27) C d_M_drop_27 rfl 1 rfl ?_
      refine r_iconst (pc := 28) C d_M_drop_28 (v := (-1)) (by decide) ?_
      obtain ⟨b4, h⟩ := h
      refine r_iast (pc := 29) C (lay_A rfl) b4 d_M_drop_29 ?_
      intro μ5 eμ5; replace h := h μ5 eμ5
      exact r_vret (pc := 30) C d_M_drop_30 (by decide) (by decide) h
  unfold wM_drop at h
  refine r_aload_n (pc := 0) C d_M_drop_0 rfl 0 rfl ?_
  refine r_iload_n (pc := 1) C d_M_drop_1 rfl 1 rfl ?_
  refine r_cSi (pc := 2) (a' := 0) (b' := 0) (As := [.inl a1]) C (c_M_isRoot C.s h) o_M_isRoot (k_752 C.w) rfl ⟨by decide, by decide, by decide, by decide⟩ rfl rfl (Nat.le_of_ble_eq_true rfl) d_M_drop_2 rfl ?_
  intro r2 μ1 h
  refine r_if_eq (tgt := 12) (pc := 5) C d_M_drop_5 (by decide) ?_ ?_
  · intro hc; replace h := h.1 hc
    refine r_iconst (pc := 12) C d_M_drop_12 (v := 1) (by decide) ?_
    exact J_13 a1 1 μ1 h
  · intro hc; replace h := h.2 hc
    refine r_iconst (pc := 8) C d_M_drop_8 (v := 0) (by decide) ?_
    refine r_goto (tgt := 13) (pc := 9) C d_M_drop_9 (by decide) ?_
    exact J_13 a1 0 μ1 h
theorem c_M_copy {l : Launch} (hl : l.stackTraces = false) {G : Gl} {a1 : Int32} {a2 : Int32} {post : Mem → Prop} {μ : Mem} (h : wM_copy a1 a2 post μ) : Ct l G i_M_copy [.inr (.inl (some 17)), .inl a1, .inl a2] μ (poV post) noX := by
  refine ct_of hl (by decide) (Nat.le_of_ble_eq_true rfl) ?_
  intro K hKl C hE
  clear hl hKl
  replace C : Cx K G prog_8_method_40_code "LineCollectorModel" 3 { frames := 1, cells := 0, slots := 0, locals := 20 } (none) (poV post) noX := C
  show Rn K G 3 0 [(0, .inr (.inl (some 17))), (1, .inl a1), (2, .inl a2)] [] μ 0 0
  have J_20 : ∀ (l1 : Int32) (l2 : Int32) (t1 : Int32) (μ : Mem), wM_copy_20 l1 l2 t1 post μ → Rn K G 3 20 [(0, .inr (.inl (some 17))), (1, .inl l1), (2, .inl l2)] [.int t1, rv G (some 17)] μ 0 0 := by
    intro l1 l2 t1 μ h
    unfold wM_copy_20 at h
    refine r_putI (pc := 20) (ci := 6) C rfl 0 (by decide) (k_650 C.w) rfl rfl p_I (lay_O rfl) d_M_copy_20 ?_
    intro μ3 eμ3; replace h := h μ3 eμ3
    refine r_aload_n (pc := 23) C d_M_copy_23 rfl 0 rfl ?_
    refine r_getI (pc := 24) (ci := 6) C rfl 0 (by decide) (k_650 C.w) rfl (lay_O rfl) d_M_copy_24 ?_
    refine r_if_ne (tgt := 42) (pc := 27) C d_M_copy_27 (by decide) ?_ ?_
    · intro hc; replace h := h.2 hc
      exact r_vret (pc := 42) C d_M_copy_42 (by decide) (by decide) h
    · intro hc; replace h := h.1 hc
      refine r_aload_n (pc := 30) C d_M_copy_30 rfl 0 rfl ?_
      refine r_getR (pc := 31) (ci := 6) C rfl 11 (by decide) (k_661 C.w) rfl (lay_O rfl) d_M_copy_31 ?_
      refine r_iload_n (pc := 34) C d_M_copy_34 rfl 1 rfl ?_
      refine r_aload_n (pc := 35) C d_M_copy_35 rfl 0 rfl ?_
      refine r_getR (pc := 36) (ci := 6) C rfl 11 (by decide) (k_661 C.w) rfl (lay_O rfl) d_M_copy_36 ?_
      refine r_iload_n (pc := 39) C d_M_copy_39 rfl 2 rfl ?_
      obtain ⟨b4, h⟩ := h
      refine r_iald (pc := 40) C (lay_A rfl) b4 d_M_copy_40 ?_
      obtain ⟨b5, h⟩ := h
      refine r_iast (pc := 41) C (lay_A rfl) b5 d_M_copy_41 ?_
      intro μ6 eμ6; replace h := h μ6 eμ6
      exact r_vret (pc := 42) C d_M_copy_42 (by decide) (by decide) h
  have J_19 : ∀ (l1 : Int32) (l2 : Int32) (μ : Mem), wM_copy_19 l1 l2 post μ → Rn K G 3 19 [(0, .inr (.inl (some 17))), (1, .inl l1), (2, .inl l2)] [rv G (some 17)] μ 0 0 := by
    intro l1 l2 μ h
    unfold wM_copy_19 at h
    refine r_iconst (pc := 19) C d_M_copy_19 (v := 1) (by decide) ?_
    exact J_20 l1 l2 1 μ h
  unfold wM_copy at h
  refine r_aload_n (pc := 0) C d_M_copy_0 rfl 0 rfl ?_
  refine r_iload_n (pc := 1) C d_M_copy_1 rfl 1 rfl ?_
  refine r_cSi (pc := 2) (a' := 0) (b' := 0) (As := [.inl a1]) C (c_M_isRoot C.s h) o_M_isRoot (k_752 C.w) rfl ⟨by decide, by decide, by decide, by decide⟩ rfl rfl (Nat.le_of_ble_eq_true rfl) d_M_copy_2 rfl ?_
  intro r2 μ1 h
  refine r_if_eq (tgt := 19) (pc := 5) C d_M_copy_5 (by decide) ?_ ?_
  · intro hc; replace h := h.1 hc
    exact J_19 a1 a2 μ1 h
  · intro hc; replace h := h.2 hc
    refine r_iload_n (pc := 8) C d_M_copy_8 rfl 2 rfl ?_
    refine r_cSi (pc := 9) (a' := 0) (b' := 0) (As := [.inl a2]) C (c_M_isRoot C.s h) o_M_isRoot (k_752 C.w) rfl ⟨by decide, by decide, by decide, by decide⟩ rfl rfl (Nat.le_of_ble_eq_true rfl) d_M_copy_9 rfl ?_
    intro r8 μ7 h
    refine r_if_eq (tgt := 19) (pc := 12) C d_M_copy_12 (by decide) ?_ ?_
    · intro hc; replace h := h.1 hc
      exact J_19 a1 a2 μ7 h
    · intro hc; replace h := h.2 hc
      refine r_iconst (pc := 15) C d_M_copy_15 (v := 0) (by decide) ?_
      refine r_goto (tgt := 20) (pc := 16) C d_M_copy_16 (by decide) ?_
      exact J_20 a1 a2 0 μ7 h
theorem c_M_reach {l : Launch} (hl : l.stackTraces = false) {G : Gl} {a1 : Int32} {a2 : Int32} {a3 : Int32} {post : Mem → Prop} {μ : Mem} (h : wM_reach a1 a2 a3 post μ) : Ct l G i_M_reach [.inr (.inl (some 17)), .inl a1, .inl a2, .inl a3] μ (poV post) noX := by
  refine ct_of hl (by decide) (Nat.le_of_ble_eq_true rfl) ?_
  intro K hKl C hE
  clear hl hKl
  replace C : Cx K G prog_8_method_41_code "LineCollectorModel" 4 { frames := 1, cells := 0, slots := 0, locals := 20 } (none) (poV post) noX := C
  show Rn K G 4 0 [(0, .inr (.inl (some 17))), (1, .inl a1), (2, .inl a2), (3, .inl a3)] [] μ 0 0
  have J_33 : ∀ (l1 : Int32) (l3 : Int32) (t1 : Int32) (μ : Mem), wM_reach_33 l1 l3 t1 post μ → Rn K G 4 33 [(0, .inr (.inl (some 17))), (1, .inl l1), (3, .inl l3)] [.int t1, rv G (some 17)] μ 0 0 := by
    intro l1 l3 t1 μ h
    unfold wM_reach_33 at h
    refine r_putI (pc := 33) (ci := 6) C rfl 0 (by decide) (k_650 C.w) rfl rfl p_I (lay_O rfl) d_M_reach_33 ?_
    intro μ3 eμ3; replace h := h μ3 eμ3
    refine r_aload_n (pc := 36) C d_M_reach_36 rfl 0 rfl ?_
    refine r_getI (pc := 37) (ci := 6) C rfl 0 (by decide) (k_650 C.w) rfl (lay_O rfl) d_M_reach_37 ?_
    refine r_if_ne (tgt := 71) (pc := 40) C d_M_reach_40 (by decide) ?_ ?_
    · intro hc; replace h := h.2 hc
      exact r_vret (pc := 71) C d_M_reach_71 (by decide) (by decide) h
    · intro hc; replace h := h.1 hc
      refine r_aload_n (pc := 43) C d_M_reach_43 rfl 0 rfl ?_
      refine r_iload_n (pc := 44) C d_M_reach_44 rfl 2 rfl ?_
      refine r_if_lt (tgt := 67) (pc := 45) C d_M_reach_45 (by decide) ?_ ?_
      · intro hc; replace h := h.1 hc
        refine r_iconst (pc := 67) C d_M_reach_67 (v := 3) (by decide) ?_
        refine r_putI (pc := 68) (ci := 6) C rfl 0 (by decide) (k_650 C.w) rfl rfl p_I (lay_O rfl) d_M_reach_68 ?_
        intro μ4 eμ4; replace h := h μ4 eμ4
        exact r_vret (pc := 71) C d_M_reach_71 (by decide) (by decide) h
      · intro hc; replace h := h.2 hc
        refine r_iload_n (pc := 48) C d_M_reach_48 rfl 2 rfl ?_
        refine r_aload_n (pc := 49) C d_M_reach_49 rfl 0 rfl ?_
        refine r_getR (pc := 50) (ci := 6) C rfl 4 (by decide) (k_654 C.w) rfl (lay_O rfl) d_M_reach_50 ?_
        refine r_aload_n (pc := 53) C d_M_reach_53 rfl 0 rfl ?_
        refine r_getR (pc := 54) (ci := 6) C rfl 11 (by decide) (k_661 C.w) rfl (lay_O rfl) d_M_reach_54 ?_
        refine r_iload_n (pc := 57) C d_M_reach_57 rfl 1 rfl ?_
        obtain ⟨b5, h⟩ := h
        refine r_iald (pc := 58) C (lay_A rfl) b5 d_M_reach_58 ?_
        obtain ⟨b6, h⟩ := h
        refine r_iald (pc := 59) C (lay_A rfl) b6 d_M_reach_59 ?_
        refine r_icmp_ge (tgt := 67) (pc := 60) C d_M_reach_60 (by decide) ?_ ?_
        · intro hc; replace h := h.1 hc
          refine r_iconst (pc := 67) C d_M_reach_67 (v := 3) (by decide) ?_
          refine r_putI (pc := 68) (ci := 6) C rfl 0 (by decide) (k_650 C.w) rfl rfl p_I (lay_O rfl) d_M_reach_68 ?_
          intro μ7 eμ7; replace h := h μ7 eμ7
          exact r_vret (pc := 71) C d_M_reach_71 (by decide) (by decide) h
        · intro hc; replace h := h.2 hc
          refine r_iconst (pc := 63) C d_M_reach_63 (v := 0) (by decide) ?_
          refine r_goto (tgt := 68) (pc := 64) C d_M_reach_64 (by decide) ?_
          refine r_putI (pc := 68) (ci := 6) C rfl 0 (by decide) (k_650 C.w) rfl rfl p_I (lay_O rfl) d_M_reach_68 ?_
          intro μ8 eμ8; replace h := h μ8 eμ8
          exact r_vret (pc := 71) C d_M_reach_71 (by decide) (by decide) h
  have J_15 : ∀ (l1 : Int32) (l3 : Int32) (μ : Mem), wM_reach_15 l1 l3 post μ → Rn K G 4 15 [(0, .inr (.inl (some 17))), (1, .inl l1), (3, .inl l3)] [rv G (some 17)] μ 0 0 := by
    intro l1 l3 μ h
    unfold wM_reach_15 at h
    refine r_iconst (pc := 15) C d_M_reach_15 (v := 1) (by decide) ?_
    refine r_goto (tgt := 33) (pc := 16) C d_M_reach_16 (by decide) ?_
    exact J_33 l1 l3 1 μ h
  unfold wM_reach at h
  refine r_aload_n (pc := 0) C d_M_reach_0 rfl 0 rfl ?_
  refine r_iload_n (pc := 1) C d_M_reach_1 rfl 1 rfl ?_
  refine r_cSi (pc := 2) (a' := 0) (b' := 0) (As := [.inl a1]) C (c_M_isRoot C.s h) o_M_isRoot (k_752 C.w) rfl ⟨by decide, by decide, by decide, by decide⟩ rfl rfl (Nat.le_of_ble_eq_true rfl) d_M_reach_2 rfl ?_
  intro r2 μ1 h
  refine r_if_eq (tgt := 15) (pc := 5) C d_M_reach_5 (by decide) ?_ ?_
  · intro hc; replace h := h.1 hc
    refine r_sub [0, 1, 3] rfl ?_
    exact J_15 a1 a3 μ1 h
  · intro hc; replace h := h.2 hc
    refine r_iload_n (pc := 8) C d_M_reach_8 rfl 2 rfl ?_
    refine r_cSi (pc := 9) (a' := 0) (b' := 0) (As := [.inl a2]) C (c_M_isRoot C.s h) o_M_isRoot (k_752 C.w) rfl ⟨by decide, by decide, by decide, by decide⟩ rfl rfl (Nat.le_of_ble_eq_true rfl) d_M_reach_9 rfl ?_
    intro r10 μ9 h
    refine r_if_ne (tgt := 19) (pc := 12) C d_M_reach_12 (by decide) ?_ ?_
    · intro hc; replace h := h.2 hc
      refine r_aload_n (pc := 19) C d_M_reach_19 rfl 0 rfl ?_
      refine r_getR (pc := 20) (ci := 6) C rfl 11 (by decide) (k_661 C.w) rfl (lay_O rfl) d_M_reach_20 ?_
      refine r_iload_n (pc := 23) C d_M_reach_23 rfl 1 rfl ?_
      obtain ⟨b11, h⟩ := h
      refine r_iald (pc := 24) C (lay_A rfl) b11 d_M_reach_24 ?_
      refine r_if_ge (tgt := 32) (pc := 25) C d_M_reach_25 (by decide) ?_ ?_
      · intro hc; replace h := h.1 hc
        refine r_iconst (pc := 32) C d_M_reach_32 (v := 0) (by decide) ?_
        refine r_sub [0, 1, 3] rfl ?_
        exact J_33 a1 a3 0 μ9 h
      · intro hc; replace h := h.2 hc
        refine r_iconst (pc := 28) C d_M_reach_28 (v := 2) (by decide) ?_
        refine r_goto (tgt := 33) (pc := 29) C d_M_reach_29 (by decide) ?_
        refine r_sub [0, 1, 3] rfl ?_
        exact J_33 a1 a3 2 μ9 h
    · intro hc; replace h := h.1 hc
      refine r_sub [0, 1, 3] rfl ?_
      exact J_15 a1 a3 μ9 h
theorem c_M_load {l : Launch} (hl : l.stackTraces = false) {G : Gl} {a1 : Int32} {a2 : Int32} {a3 : Int32} {post : Int32 → Mem → Prop} {μ : Mem} (h : wM_load a1 a2 a3 post μ) : Ct l G i_M_load [.inr (.inl (some 17)), .inl a1, .inl a2, .inl a3] μ (poI post) noX := by
  refine ct_of hl (by decide) (Nat.le_of_ble_eq_true rfl) ?_
  intro K hKl C hE
  clear hl hKl
  replace C : Cx K G prog_8_method_42_code "LineCollectorModel" 4 { frames := 2, cells := 0, slots := 0, locals := 43 } (some .int) (poI post) noX := C
  show Rn K G 4 0 [(0, .inr (.inl (some 17))), (1, .inl a1), (2, .inl a2), (3, .inl a3)] [] μ 0 0
  unfold wM_load at h
  refine r_aload_n (pc := 0) C d_M_load_0 rfl 0 rfl ?_
  refine r_iload_n (pc := 1) C d_M_load_1 rfl 2 rfl ?_
  refine r_iload_n (pc := 2) C d_M_load_2 rfl 1 rfl ?_
  refine r_iload_n (pc := 3) C d_M_load_3 rfl 3 rfl ?_
  refine r_cVv (pc := 4) (a' := 0) (b' := 0) (As := [.inl a2, .inl a1, .inl a3]) (ci := 6) C (c_M_reach C.s h) o_M_reach rfl (lay_O rfl) (k_899 C.w) rfl ⟨by decide, by decide, by decide, by decide⟩ rfl rfl (Nat.le_of_ble_eq_true rfl) d_M_load_4 rfl ?_
  intro μ1 h
  refine r_aload_n (pc := 7) C d_M_load_7 rfl 0 rfl ?_
  refine r_getI (pc := 8) (ci := 6) C rfl 0 (by decide) (k_650 C.w) rfl (lay_O rfl) d_M_load_8 ?_
  refine r_if_le (tgt := 16) (pc := 11) C d_M_load_11 (by decide) ?_ ?_
  · intro hc; replace h := h.1 hc
    refine r_aload_n (pc := 16) C d_M_load_16 rfl 0 rfl ?_
    refine r_getR (pc := 17) (ci := 6) C rfl 11 (by decide) (k_661 C.w) rfl (lay_O rfl) d_M_load_17 ?_
    refine r_iload_n (pc := 20) C d_M_load_20 rfl 1 rfl ?_
    refine r_aload_n (pc := 21) C d_M_load_21 rfl 0 rfl ?_
    refine r_getR (pc := 22) (ci := 6) C rfl 8 (by decide) (k_658 C.w) rfl (lay_O rfl) d_M_load_22 ?_
    refine r_bipush (pc := 25) C d_M_load_25 (v := 12) (by decide) ?_
    refine r_aload_n (pc := 27) C d_M_load_27 rfl 0 rfl ?_
    refine r_getR (pc := 28) (ci := 6) C rfl 11 (by decide) (k_661 C.w) rfl (lay_O rfl) d_M_load_28 ?_
    refine r_iload_n (pc := 31) C d_M_load_31 rfl 2 rfl ?_
    obtain ⟨b2, h⟩ := h
    refine r_iald (pc := 32) C (lay_A rfl) b2 d_M_load_32 ?_
    refine r_imul (pc := 33) C d_M_load_33 ?_
    refine r_iload_n (pc := 34) C d_M_load_34 rfl 3 rfl ?_
    refine r_iadd (pc := 35) C d_M_load_35 ?_
    obtain ⟨b3, h⟩ := h
    refine r_iald (pc := 36) C (lay_A rfl) b3 d_M_load_36 ?_
    obtain ⟨b4, h⟩ := h
    refine r_iast (pc := 37) C (lay_A rfl) b4 d_M_load_37 ?_
    intro μ5 eμ5; replace h := h μ5 eμ5
    refine r_aload_n (pc := 38) C d_M_load_38 rfl 0 rfl ?_
    refine r_aload_n (pc := 39) C d_M_load_39 rfl 0 rfl ?_
    refine r_getR (pc := 40) (ci := 6) C rfl 11 (by decide) (k_661 C.w) rfl (lay_O rfl) d_M_load_40 ?_
    refine r_iload_n (pc := 43) C d_M_load_43 rfl 1 rfl ?_
    refine r_iald (pc := 44) C (lay_A rfl) b4 d_M_load_44 ?_
    refine r_cVi (pc := 45) (a' := 0) (b' := 0) (As := [.inl (mI μ5 27 (a1).toNatClampNeg)]) (ci := 6) C (c_M_addressOf C.s h) o_M_addressOf rfl (lay_O rfl) (k_903 C.w) rfl ⟨by decide, by decide, by decide, by decide⟩ rfl rfl (Nat.le_of_ble_eq_true rfl) d_M_load_45 rfl ?_
    intro r7 μ6 h
    exact r_iret (pc := 48) C d_M_load_48 (by decide) (by decide) h
  · intro hc; replace h := h.2 hc
    refine r_iconst (pc := 14) C d_M_load_14 (v := 0) (by decide) ?_
    exact r_iret (pc := 15) C d_M_load_15 (by decide) (by decide) h
theorem c_M_store {l : Launch} (hl : l.stackTraces = false) {G : Gl} {a1 : Int32} {a2 : Int32} {a3 : Int32} {post : Mem → Prop} {μ : Mem} (h : wM_store a1 a2 a3 post μ) : Ct l G i_M_store [.inr (.inl (some 17)), .inl a1, .inl a2, .inl a3] μ (poV post) noX := by
  refine ct_of hl (by decide) (Nat.le_of_ble_eq_true rfl) ?_
  intro K hKl C hE
  clear hl hKl
  replace C : Cx K G prog_8_method_43_code "LineCollectorModel" 6 { frames := 2, cells := 0, slots := 0, locals := 43 } (none) (poV post) noX := C
  show Rn K G 6 0 [(0, .inr (.inl (some 17))), (1, .inl a1), (2, .inl a2), (3, .inl a3)] [] μ 0 0
  unfold wM_store at h
  refine r_aload_n (pc := 0) C d_M_store_0 rfl 0 rfl ?_
  refine r_iload_n (pc := 1) C d_M_store_1 rfl 1 rfl ?_
  refine r_iload_n (pc := 2) C d_M_store_2 rfl 3 rfl ?_
  refine r_iload_n (pc := 3) C d_M_store_3 rfl 2 rfl ?_
  refine r_cVv (pc := 4) (a' := 0) (b' := 0) (As := [.inl a1, .inl a3, .inl a2]) (ci := 6) C (c_M_reach C.s h) o_M_reach rfl (lay_O rfl) (k_899 C.w) rfl ⟨by decide, by decide, by decide, by decide⟩ rfl rfl (Nat.le_of_ble_eq_true rfl) d_M_store_4 rfl ?_
  intro μ1 h
  refine r_aload_n (pc := 7) C d_M_store_7 rfl 0 rfl ?_
  refine r_getI (pc := 8) (ci := 6) C rfl 0 (by decide) (k_650 C.w) rfl (lay_O rfl) d_M_store_8 ?_
  refine r_if_le (tgt := 15) (pc := 11) C d_M_store_11 (by decide) ?_ ?_
  · intro hc; replace h := h.1 hc
    refine r_aload_n (pc := 15) C d_M_store_15 rfl 0 rfl ?_
    refine r_getR (pc := 16) (ci := 6) C rfl 11 (by decide) (k_661 C.w) rfl (lay_O rfl) d_M_store_16 ?_
    refine r_iload_n (pc := 19) C d_M_store_19 rfl 1 rfl ?_
    obtain ⟨b2, h⟩ := h
    refine r_iald (pc := 20) C (lay_A rfl) b2 d_M_store_20 ?_
    refine r_istore (pc := 21) (lv' := [(0, .inr (.inl (some 17))), (1, .inl a1), (2, .inl a2), (3, .inl a3)]) C d_M_store_21 (by decide) rfl ?_
    refine r_bipush (pc := 23) C d_M_store_23 (v := 12) (by decide) ?_
    refine r_iload (pc := 25) C d_M_store_25 0 rfl ?_
    refine r_imul (pc := 27) C d_M_store_27 ?_
    refine r_iload_n (pc := 28) C d_M_store_28 rfl 3 rfl ?_
    refine r_iadd (pc := 29) C d_M_store_29 ?_
    refine r_istore (pc := 30) (lv' := [(4, .inl (mI μ1 27 (a1).toNatClampNeg)), (0, .inr (.inl (some 17))), (1, .inl a1), (2, .inl a2), (3, .inl a3)]) C d_M_store_30 (by decide) rfl ?_
    refine r_aload_n (pc := 32) C d_M_store_32 rfl 2 rfl ?_
    refine r_getR (pc := 33) (ci := 6) C rfl 2 (by decide) (k_652 C.w) rfl (lay_O rfl) d_M_store_33 ?_
    refine r_iload (pc := 36) C d_M_store_36 1 rfl ?_
    obtain ⟨b3, h⟩ := h
    refine r_iald (pc := 38) C (lay_A rfl) b3 d_M_store_38 ?_
    refine r_iconst (pc := 39) C d_M_store_39 (v := 2) (by decide) ?_
    refine r_icmp_ne (tgt := 98) (pc := 40) C d_M_store_40 (by decide) ?_ ?_
    · intro hc; replace h := h.2 hc
      refine r_aload_n (pc := 98) C d_M_store_98 rfl 2 rfl ?_
      refine r_getR (pc := 99) (ci := 6) C rfl 8 (by decide) (k_658 C.w) rfl (lay_O rfl) d_M_store_99 ?_
      refine r_iload (pc := 102) C d_M_store_102 0 rfl ?_
      refine r_aload_n (pc := 104) C d_M_store_104 rfl 2 rfl ?_
      refine r_getR (pc := 105) (ci := 6) C rfl 11 (by decide) (k_661 C.w) rfl (lay_O rfl) d_M_store_105 ?_
      refine r_iload_n (pc := 108) C d_M_store_108 rfl 5 rfl ?_
      obtain ⟨b4, h⟩ := h
      refine r_iald (pc := 109) C (lay_A rfl) b4 d_M_store_109 ?_
      obtain ⟨b5, h⟩ := h
      refine r_iast (pc := 110) C (lay_A rfl) b5 d_M_store_110 ?_
      intro μ6 eμ6; replace h := h μ6 eμ6
      exact r_vret (pc := 111) C d_M_store_111 (by decide) (by decide) h
    · intro hc; replace h := h.1 hc
      refine r_aload_n (pc := 43) C d_M_store_43 rfl 2 rfl ?_
      refine r_getR (pc := 44) (ci := 6) C rfl 9 (by decide) (k_659 C.w) rfl (lay_O rfl) d_M_store_44 ?_
      refine r_iload (pc := 47) C d_M_store_47 0 rfl ?_
      obtain ⟨b7, h⟩ := h
      refine r_zald (pc := 49) C (lay_A rfl) b7 d_M_store_49 ?_
      refine r_if_ne (tgt := 98) (pc := 50) C d_M_store_50 (by decide) ?_ ?_
      · intro hc; replace h := h.2 hc
        refine r_aload_n (pc := 98) C d_M_store_98 rfl 2 rfl ?_
        refine r_getR (pc := 99) (ci := 6) C rfl 8 (by decide) (k_658 C.w) rfl (lay_O rfl) d_M_store_99 ?_
        refine r_iload (pc := 102) C d_M_store_102 0 rfl ?_
        refine r_aload_n (pc := 104) C d_M_store_104 rfl 2 rfl ?_
        refine r_getR (pc := 105) (ci := 6) C rfl 11 (by decide) (k_661 C.w) rfl (lay_O rfl) d_M_store_105 ?_
        refine r_iload_n (pc := 108) C d_M_store_108 rfl 5 rfl ?_
        obtain ⟨b8, h⟩ := h
        refine r_iald (pc := 109) C (lay_A rfl) b8 d_M_store_109 ?_
        refine r_iast (pc := 110) C (lay_A rfl) b7 d_M_store_110 ?_
        intro μ9 eμ9; replace h := h μ9 eμ9
        exact r_vret (pc := 111) C d_M_store_111 (by decide) (by decide) h
      · intro hc; replace h := h.1 hc
        refine r_aload_n (pc := 53) C d_M_store_53 rfl 2 rfl ?_
        refine r_getR (pc := 54) (ci := 6) C rfl 9 (by decide) (k_659 C.w) rfl (lay_O rfl) d_M_store_54 ?_
        refine r_iload (pc := 57) C d_M_store_57 0 rfl ?_
        refine r_iconst (pc := 59) C d_M_store_59 (v := 1) (by decide) ?_
        refine r_zast (pc := 60) C (lay_A rfl) b7 d_M_store_60 (Or.inr rfl) ?_
        intro μ10 eμ10; replace h := h μ10 eμ10
        refine r_aload_n (pc := 61) C d_M_store_61 rfl 2 rfl ?_
        refine r_getR (pc := 62) (ci := 6) C rfl 22 (by decide) (k_672 C.w) rfl (lay_O rfl) d_M_store_62 ?_
        refine r_aload_n (pc := 65) C d_M_store_65 rfl 2 rfl ?_
        refine r_getI (pc := 66) (ci := 6) C rfl 24 (by decide) (k_674 C.w) rfl (lay_O rfl) d_M_store_66 ?_
        refine r_iload (pc := 69) C d_M_store_69 0 rfl ?_
        obtain ⟨b11, h⟩ := h
        refine r_iast (pc := 71) C (lay_A rfl) b11 d_M_store_71 ?_
        intro μ12 eμ12; replace h := h μ12 eμ12
        refine r_aload_n (pc := 72) C d_M_store_72 rfl 2 rfl ?_
        refine r_getR (pc := 73) (ci := 6) C rfl 23 (by decide) (k_673 C.w) rfl (lay_O rfl) d_M_store_73 ?_
        refine r_aload_n (pc := 76) C d_M_store_76 rfl 2 rfl ?_
        refine r_getI (pc := 77) (ci := 6) C rfl 24 (by decide) (k_674 C.w) rfl (lay_O rfl) d_M_store_77 ?_
        refine r_aload_n (pc := 80) C d_M_store_80 rfl 2 rfl ?_
        refine r_getR (pc := 81) (ci := 6) C rfl 8 (by decide) (k_658 C.w) rfl (lay_O rfl) d_M_store_81 ?_
        refine r_iload (pc := 84) C d_M_store_84 0 rfl ?_
        refine r_iald (pc := 86) C (lay_A rfl) b7 d_M_store_86 ?_
        obtain ⟨b13, h⟩ := h
        refine r_iast (pc := 87) C (lay_A rfl) b13 d_M_store_87 ?_
        intro μ14 eμ14; replace h := h μ14 eμ14
        refine r_aload_n (pc := 88) C d_M_store_88 rfl 2 rfl ?_
        refine r_dupR (pc := 89) C d_M_store_89 ?_
        refine r_getI (pc := 90) (ci := 6) C rfl 24 (by decide) (k_674 C.w) rfl (lay_O rfl) d_M_store_90 ?_
        refine r_iconst (pc := 93) C d_M_store_93 (v := 1) (by decide) ?_
        refine r_iadd (pc := 94) C d_M_store_94 ?_
        refine r_putI (pc := 95) (ci := 6) C rfl 24 (by decide) (k_674 C.w) rfl rfl p_I (lay_O rfl) d_M_store_95 ?_
        intro μ15 eμ15; replace h := h μ15 eμ15
        refine r_aload_n (pc := 98) C d_M_store_98 rfl 2 rfl ?_
        refine r_getR (pc := 99) (ci := 6) C rfl 8 (by decide) (k_658 C.w) rfl (lay_O rfl) d_M_store_99 ?_
        refine r_iload (pc := 102) C d_M_store_102 0 rfl ?_
        refine r_aload_n (pc := 104) C d_M_store_104 rfl 2 rfl ?_
        refine r_getR (pc := 105) (ci := 6) C rfl 11 (by decide) (k_661 C.w) rfl (lay_O rfl) d_M_store_105 ?_
        refine r_iload_n (pc := 108) C d_M_store_108 rfl 5 rfl ?_
        obtain ⟨b16, h⟩ := h
        refine r_iald (pc := 109) C (lay_A rfl) b16 d_M_store_109 ?_
        refine r_iast (pc := 110) C (lay_A rfl) b7 d_M_store_110 ?_
        intro μ17 eμ17; replace h := h μ17 eμ17
        exact r_vret (pc := 111) C d_M_store_111 (by decide) (by decide) h
  · intro hc; replace h := h.2 hc
    exact r_vret (pc := 14) C d_M_store_14 (by decide) (by decide) h
