/-! The machine meets the predicates (written by a program) -/
theorem c_M_sweep {l : Launch} (hl : l.stackTraces = false) {G : Gl} (hg : gf G = true) {post : Mem → Prop} {μ : Mem} (h : wM_sweep post μ) : Ct l G i_M_sweep [.inr (.inl (some 17))] μ (poV post) noX := by
  refine ct_of hl (by decide) (Nat.le_of_ble_eq_true rfl) ?_
  intro K hKl C Q hE
  clear hl hKl
  replace C : Cx K G prog_8_method_30_code "LineCollectorModel" 5 { frames := 2, cells := 0, slots := 0, locals := 44 } := C
  replace Q : Cq K G { frames := 2, cells := 0, slots := 0, locals := 44 } (none) (poV post) noX := Q
  show Rn K G 5 0 [(0, .inr (.inl (some 17)))] [] μ 0 0
  have L_17 : ∀ (l2 : Int32) (l1 : Int32) (k : Int32 → Mem → Prop), (∀ (v3 : Int32) (μ : Mem), k v3 μ → Rn K G 5 74 [(0, .inr (.inl (some 17))), (1, .inl l1)] [] μ 0 0) → ∀ (n : Nat) (l3 : Int32) (μ : Mem), wM_sweep_17 l2 k n l3 μ → Rn K G 5 17 [(0, .inr (.inl (some 17))), (1, .inl l1), (2, .inl l2), (3, .inl l3)] [] μ 0 0 := by
    intro l2 l1 k hk n
    induction n with
    | zero => intro l3 μ h; exact h.elim
    | succ n ih =>
      intro l3 μ h
      unfold wM_sweep_17 at h
      refine r_aload_n (pc := 17) C d_M_sweep_17 rfl 0 rfl ?_
      refine r_iload_n (pc := 18) C d_M_sweep_18 rfl 2 rfl ?_
      refine r_cVi (pc := 19) (a' := 0) (b' := 0) (As := [.inl l2]) (ci := 6) C (c_M_isWhite C.s hg h) o_M_isWhite rfl (lay_O hg rfl) (k_807 C.w) rfl ⟨by decide, by decide, by decide, by decide⟩ rfl rfl (Nat.le_of_ble_eq_true rfl) d_M_sweep_19 rfl ?_
      intro r4 μ3 h
      refine r_if_eq (tgt := 74) (pc := 22) C d_M_sweep_22 (by decide) ?_ ?_
      · intro hc; replace h := h.1 hc
        refine r_sub [0, 1] rfl ?_
        exact hk l3 μ3 h
      · intro hc; replace h := h.2 hc
        refine r_iload_n (pc := 25) C d_M_sweep_25 rfl 3 rfl ?_
        refine r_aload_n (pc := 26) C d_M_sweep_26 rfl 0 rfl ?_
        refine r_getR (pc := 27) (ci := 6) C rfl 4 (by decide) (k_654 C.w) rfl (lay_O hg rfl) d_M_sweep_27 ?_
        refine r_iload_n (pc := 30) C d_M_sweep_30 rfl 2 rfl ?_
        obtain ⟨b5, h⟩ := h
        refine r_iald (pc := 31) C (lay_A hg rfl) b5 d_M_sweep_31 ?_
        refine r_icmp_ge (tgt := 74) (pc := 32) C d_M_sweep_32 (by decide) ?_ ?_
        · intro hc; replace h := h.1 hc
          refine r_sub [0, 1] rfl ?_
          exact hk l3 μ3 h
        · intro hc; replace h := h.2 hc
          refine r_aload_n (pc := 35) C d_M_sweep_35 rfl 0 rfl ?_
          refine r_getR (pc := 36) (ci := 6) C rfl 8 (by decide) (k_658 C.w) rfl (lay_O hg rfl) d_M_sweep_36 ?_
          refine r_bipush (pc := 39) C d_M_sweep_39 (v := 12) (by decide) ?_
          refine r_iload_n (pc := 41) C d_M_sweep_41 rfl 2 rfl ?_
          refine r_imul (pc := 42) C d_M_sweep_42 ?_
          refine r_iload_n (pc := 43) C d_M_sweep_43 rfl 3 rfl ?_
          refine r_iadd (pc := 44) C d_M_sweep_44 ?_
          obtain ⟨b6, h⟩ := h
          refine r_iald (pc := 45) C (lay_A hg rfl) b6 d_M_sweep_45 ?_
          refine r_istore (pc := 46) (lv' := [(0, .inr (.inl (some 17))), (1, .inl l1), (2, .inl l2), (3, .inl l3)]) C d_M_sweep_46 (by decide) rfl ?_
          refine r_iload (pc := 48) C d_M_sweep_48 0 rfl ?_
          refine r_if_lt (tgt := 68) (pc := 50) C d_M_sweep_50 (by decide) ?_ ?_
          · intro hc; replace h := h.1 hc
            refine r_iinc (pc := 68) (v := 1) (lv' := [(4, .inl (mI μ3 25 ((12 * l2) + l3).toNatClampNeg)), (0, .inr (.inl (some 17))), (1, .inl l1), (2, .inl l2)]) C d_M_sweep_68 4 rfl (by decide) (by decide) rfl ?_
            refine r_goto (tgt := 17) (pc := 71) C d_M_sweep_71 (by decide) ?_
            refine r_sub [2, 3, 4, 0] rfl ?_
            exact ih (l3 + 1) μ3 h
          · intro hc; replace h := h.2 hc
            refine r_aload_n (pc := 53) C d_M_sweep_53 rfl 1 rfl ?_
            refine r_iload (pc := 54) C d_M_sweep_54 0 rfl ?_
            refine r_cVi (pc := 56) (a' := 0) (b' := 0) (As := [.inl (mI μ3 25 ((12 * l2) + l3).toNatClampNeg)]) (ci := 6) C (c_M_isWhite C.s hg h) o_M_isWhite rfl (lay_O hg rfl) (k_807 C.w) rfl ⟨by decide, by decide, by decide, by decide⟩ rfl rfl (Nat.le_of_ble_eq_true rfl) d_M_sweep_56 rfl ?_
            intro r8 μ7 h
            refine r_if_ne (tgt := 68) (pc := 59) C d_M_sweep_59 (by decide) ?_ ?_
            · intro hc; replace h := h.2 hc
              refine r_iinc (pc := 68) (v := 1) (lv' := [(4, .inl (mI μ3 25 ((12 * l2) + l3).toNatClampNeg)), (0, .inr (.inl (some 17))), (1, .inl l1), (2, .inl l2)]) C d_M_sweep_68 4 rfl (by decide) (by decide) rfl ?_
              refine r_goto (tgt := 17) (pc := 71) C d_M_sweep_71 (by decide) ?_
              refine r_sub [2, 3, 4, 0] rfl ?_
              exact ih (l3 + 1) μ7 h
            · intro hc; replace h := h.1 hc
              refine r_aload_n (pc := 62) C d_M_sweep_62 rfl 1 rfl ?_
              refine r_iload (pc := 63) C d_M_sweep_63 0 rfl ?_
              refine r_cVv (pc := 65) (a' := 0) (b' := 0) (As := [.inl (mI μ3 25 ((12 * l2) + l3).toNatClampNeg)]) (ci := 6) C (c_M_wait C.s hg h) o_M_wait rfl (lay_O hg rfl) (k_803 C.w) rfl ⟨by decide, by decide, by decide, by decide⟩ rfl rfl (Nat.le_of_ble_eq_true rfl) d_M_sweep_65 rfl ?_
              intro μ9 h
              refine r_iinc (pc := 68) (v := 1) (lv' := [(4, .inl (mI μ3 25 ((12 * l2) + l3).toNatClampNeg)), (0, .inr (.inl (some 17))), (1, .inl l1), (2, .inl l2)]) C d_M_sweep_68 4 rfl (by decide) (by decide) rfl ?_
              refine r_goto (tgt := 17) (pc := 71) C d_M_sweep_71 (by decide) ?_
              refine r_sub [2, 3, 4, 0] rfl ?_
              exact ih (l3 + 1) μ9 h
  have L_2 : ∀ (k : Int32 → Mem → Prop), (∀ (v1 : Int32) (μ : Mem), k v1 μ → Rn K G 5 80 [(0, .inr (.inl (some 17)))] [] μ 0 0) → ∀ (n : Nat) (l1 : Int32) (μ : Mem), wM_sweep_2 k n l1 μ → Rn K G 5 2 [(0, .inr (.inl (some 17))), (1, .inl l1)] [] μ 0 0 := by
    intro k hk n
    induction n with
    | zero => intro l1 μ h; exact h.elim
    | succ n ih =>
      intro l1 μ h
      unfold wM_sweep_2 at h
      refine r_iload_n (pc := 2) C d_M_sweep_2 rfl 1 rfl ?_
      refine r_sipush (pc := 3) C d_M_sweep_3 (v := 128) (by decide) ?_
      refine r_icmp_ge (tgt := 80) (pc := 6) C d_M_sweep_6 (by decide) ?_ ?_
      · intro hc; replace h := h.1 hc
        refine r_sub [0] rfl ?_
        exact hk l1 μ h
      · intro hc; replace h := h.2 hc
        refine r_aload_n (pc := 9) C d_M_sweep_9 rfl 0 rfl ?_
        refine r_iload_n (pc := 10) C d_M_sweep_10 rfl 1 rfl ?_
        refine r_cVi (pc := 11) (a' := 0) (b' := 0) (As := [.inl l1]) (ci := 6) C (c_M_objectAt C.s hg h) o_M_objectAt rfl (lay_O hg rfl) (k_859 C.w) rfl ⟨by decide, by decide, by decide, by decide⟩ rfl rfl (Nat.le_of_ble_eq_true rfl) d_M_sweep_11 rfl ?_
        intro r2 μ1 h
        refine r_istore_n (pc := 14) (lv' := [(0, .inr (.inl (some 17))), (1, .inl l1)]) C d_M_sweep_14 rfl (by decide) rfl ?_
        refine r_iconst (pc := 15) C d_M_sweep_15 (v := 0) (by decide) ?_
        refine r_istore_n (pc := 16) (lv' := [(2, .inl r2), (0, .inr (.inl (some 17))), (1, .inl l1)]) C d_M_sweep_16 rfl (by decide) rfl ?_
        obtain ⟨n12, h⟩ := h
        refine r_sub [2, 3, 1, 0] rfl ?_
        refine L_17 r2 l1 _ ?_ n12 0 μ1 h
        intro v11 μ10 h
        refine r_iinc (pc := 74) (v := 1) (lv' := [(0, .inr (.inl (some 17)))]) C d_M_sweep_74 1 rfl (by decide) (by decide) rfl ?_
        refine r_goto (tgt := 2) (pc := 77) C d_M_sweep_77 (by decide) ?_
        refine r_sub [1, 0] rfl ?_
        exact ih (l1 + 1) μ10 h
  have L_82 : ∀ (k : Int32 → Mem → Prop), (∀ (v1 : Int32) (μ : Mem), k v1 μ → Rn K G 5 118 [] [] μ 0 0) → ∀ (n : Nat) (l1 : Int32) (μ : Mem), wM_sweep_82 k n l1 μ → Rn K G 5 82 [(0, .inr (.inl (some 17))), (1, .inl l1)] [] μ 0 0 := by
    intro k hk n
    induction n with
    | zero => intro l1 μ h; exact h.elim
    | succ n ih =>
      intro l1 μ h
      unfold wM_sweep_82 at h
      refine r_iload_n (pc := 82) C d_M_sweep_82 rfl 1 rfl ?_
      refine r_sipush (pc := 83) C d_M_sweep_83 (v := 256) (by decide) ?_
      refine r_icmp_ge (tgt := 118) (pc := 86) C d_M_sweep_86 (by decide) ?_ ?_
      · intro hc; replace h := h.1 hc
        refine r_sub [] rfl ?_
        exact hk l1 μ h
      · intro hc; replace h := h.2 hc
        refine r_aload_n (pc := 89) C d_M_sweep_89 rfl 0 rfl ?_
        refine r_iload_n (pc := 90) C d_M_sweep_90 rfl 1 rfl ?_
        refine r_cVi (pc := 91) (a' := 0) (b' := 0) (As := [.inl l1]) (ci := 6) C (c_M_isWhite C.s hg h) o_M_isWhite rfl (lay_O hg rfl) (k_807 C.w) rfl ⟨by decide, by decide, by decide, by decide⟩ rfl rfl (Nat.le_of_ble_eq_true rfl) d_M_sweep_91 rfl ?_
        intro r16 μ15 h
        refine r_if_eq (tgt := 112) (pc := 94) C d_M_sweep_94 (by decide) ?_ ?_
        · intro hc; replace h := h.1 hc
          refine r_iinc (pc := 112) (v := 1) (lv' := [(0, .inr (.inl (some 17)))]) C d_M_sweep_112 1 rfl (by decide) (by decide) rfl ?_
          refine r_goto (tgt := 82) (pc := 115) C d_M_sweep_115 (by decide) ?_
          refine r_sub [1, 0] rfl ?_
          exact ih (l1 + 1) μ15 h
        · intro hc; replace h := h.2 hc
          refine r_aload_n (pc := 97) C d_M_sweep_97 rfl 0 rfl ?_
          refine r_iload_n (pc := 98) C d_M_sweep_98 rfl 1 rfl ?_
          refine r_cVv (pc := 99) (a' := 0) (b' := 0) (As := [.inl l1]) (ci := 6) C (c_M_lose C.s hg h) o_M_lose rfl (lay_O hg rfl) (k_811 C.w) rfl ⟨by decide, by decide, by decide, by decide⟩ rfl rfl (Nat.le_of_ble_eq_true rfl) d_M_sweep_99 rfl ?_
          intro μ17 h
          refine r_aload_n (pc := 102) C d_M_sweep_102 rfl 0 rfl ?_
          refine r_dupR (pc := 103) C d_M_sweep_103 ?_
          refine r_getI (pc := 104) (ci := 6) C rfl 30 (by decide) (k_680 C.w) rfl (lay_O hg rfl) d_M_sweep_104 ?_
          refine r_iconst (pc := 107) C d_M_sweep_107 (v := 1) (by decide) ?_
          refine r_iadd (pc := 108) C d_M_sweep_108 ?_
          refine r_putI (pc := 109) (ci := 6) C rfl 30 (by decide) (k_680 C.w) rfl rfl p_I (lay_O hg rfl) d_M_sweep_109 ?_
          intro μ18 eμ18; replace h := h μ18 eμ18
          refine r_iinc (pc := 112) (v := 1) (lv' := [(0, .inr (.inl (some 17)))]) C d_M_sweep_112 1 rfl (by decide) (by decide) rfl ?_
          refine r_goto (tgt := 82) (pc := 115) C d_M_sweep_115 (by decide) ?_
          refine r_sub [1, 0] rfl ?_
          exact ih (l1 + 1) μ18 h
  unfold wM_sweep at h
  refine r_iconst (pc := 0) C d_M_sweep_0 (v := 0) (by decide) ?_
  refine r_istore_n (pc := 1) (lv' := [(0, .inr (.inl (some 17)))]) C d_M_sweep_1 rfl (by decide) rfl ?_
  obtain ⟨n22, h⟩ := h
  refine r_sub [1, 0] rfl ?_
  refine L_2 _ ?_ n22 0 μ h
  intro v14 μ13 h
  refine r_iconst (pc := 80) C d_M_sweep_80 (v := 0) (by decide) ?_
  refine r_istore_n (pc := 81) (lv' := [(0, .inr (.inl (some 17)))]) C d_M_sweep_81 rfl (by decide) rfl ?_
  obtain ⟨n21, h⟩ := h
  refine r_sub [1, 0] rfl ?_
  refine L_82 _ ?_ n21 0 μ13 h
  intro v20 μ19 h
  exact r_vret (pc := 118) C Q d_M_sweep_118 (by decide) (by decide) h
theorem c_M_holders {l : Launch} (hl : l.stackTraces = false) {G : Gl} (hg : gf G = true) {a1 : Int32} {post : Int32 → Mem → Prop} {μ : Mem} (h : wM_holders a1 post μ) : Ct l G i_M_holders [.inr (.inl (some 17)), .inl a1] μ (poI post) noX := by
  refine ct_of hl (by decide) (Nat.le_of_ble_eq_true rfl) ?_
  intro K hKl C Q hE
  clear hl hKl
  replace C : Cx K G prog_8_method_31_code "LineCollectorModel" 5 { frames := 0, cells := 0, slots := 0, locals := 0 } := C
  replace Q : Cq K G { frames := 0, cells := 0, slots := 0, locals := 0 } (some .int) (poI post) noX := Q
  show Rn K G 5 0 [(0, .inr (.inl (some 17))), (1, .inl a1)] [] μ 0 0
  have L_4 : ∀ (l1 : Int32) (k : Int32 → Int32 → Mem → Prop), (∀ (v2 : Int32) (v3 : Int32) (μ : Mem), k v2 v3 μ → Rn K G 5 34 [(0, .inr (.inl (some 17))), (1, .inl l1), (2, .inl v2)] [] μ 0 0) → ∀ (n : Nat) (l2 : Int32) (l3 : Int32) (μ : Mem), wM_holders_4 l1 k n l2 l3 μ → Rn K G 5 4 [(0, .inr (.inl (some 17))), (1, .inl l1), (2, .inl l2), (3, .inl l3)] [] μ 0 0 := by
    intro l1 k hk n
    induction n with
    | zero => intro l2 l3 μ h; exact h.elim
    | succ n ih =>
      intro l2 l3 μ h
      unfold wM_holders_4 at h
      refine r_iload_n (pc := 4) C d_M_holders_4 rfl 3 rfl ?_
      refine r_bipush (pc := 5) C d_M_holders_5 (v := 6) (by decide) ?_
      refine r_icmp_ge (tgt := 34) (pc := 7) C d_M_holders_7 (by decide) ?_ ?_
      · intro hc; replace h := h.1 hc
        refine r_sub [0, 1, 2] rfl ?_
        exact hk l2 l3 μ h
      · intro hc; replace h := h.2 hc
        refine r_aload_n (pc := 10) C d_M_holders_10 rfl 0 rfl ?_
        refine r_getR (pc := 11) (ci := 6) C rfl 11 (by decide) (k_661 C.w) rfl (lay_O hg rfl) d_M_holders_11 ?_
        refine r_iload_n (pc := 14) C d_M_holders_14 rfl 3 rfl ?_
        obtain ⟨b1, h⟩ := h
        refine r_iald (pc := 15) C (lay_A hg rfl) b1 d_M_holders_15 ?_
        refine r_iload_n (pc := 16) C d_M_holders_16 rfl 1 rfl ?_
        refine r_icmp_ne (tgt := 26) (pc := 17) C d_M_holders_17 (by decide) ?_ ?_
        · intro hc; replace h := h.2 hc
          refine r_iload_n (pc := 26) C d_M_holders_26 rfl 2 rfl ?_
          refine r_istore_n (pc := 27) (lv' := [(0, .inr (.inl (some 17))), (1, .inl l1), (3, .inl l3)]) C d_M_holders_27 rfl (by decide) rfl ?_
          refine r_iinc (pc := 28) (v := 1) (lv' := [(2, .inl l2), (0, .inr (.inl (some 17))), (1, .inl l1)]) C d_M_holders_28 3 rfl (by decide) (by decide) rfl ?_
          refine r_goto (tgt := 4) (pc := 31) C d_M_holders_31 (by decide) ?_
          refine r_sub [2, 3, 1, 0] rfl ?_
          exact ih l2 (l3 + 1) μ h
        · intro hc; replace h := h.1 hc
          refine r_iload_n (pc := 20) C d_M_holders_20 rfl 2 rfl ?_
          refine r_iconst (pc := 21) C d_M_holders_21 (v := 1) (by decide) ?_
          refine r_iadd (pc := 22) C d_M_holders_22 ?_
          refine r_goto (tgt := 27) (pc := 23) C d_M_holders_23 (by decide) ?_
          refine r_istore_n (pc := 27) (lv' := [(0, .inr (.inl (some 17))), (1, .inl l1), (3, .inl l3)]) C d_M_holders_27 rfl (by decide) rfl ?_
          refine r_iinc (pc := 28) (v := 1) (lv' := [(2, .inl (l2 + 1)), (0, .inr (.inl (some 17))), (1, .inl l1)]) C d_M_holders_28 3 rfl (by decide) (by decide) rfl ?_
          refine r_goto (tgt := 4) (pc := 31) C d_M_holders_31 (by decide) ?_
          refine r_sub [2, 3, 1, 0] rfl ?_
          exact ih (l2 + 1) (l3 + 1) μ h
  have L_46 : ∀ (l1 : Int32) (l3 : Int32) (k : Int32 → Int32 → Mem → Prop), (∀ (v2 : Int32) (v4 : Int32) (μ : Mem), k v2 v4 μ → Rn K G 5 96 [(0, .inr (.inl (some 17))), (1, .inl l1), (2, .inl v2), (3, .inl l3)] [] μ 0 0) → ∀ (n : Nat) (l2 : Int32) (l4 : Int32) (μ : Mem), wM_holders_46 l1 l3 k n l2 l4 μ → Rn K G 5 46 [(0, .inr (.inl (some 17))), (1, .inl l1), (2, .inl l2), (3, .inl l3), (4, .inl l4)] [] μ 0 0 := by
    intro l1 l3 k hk n
    induction n with
    | zero => intro l2 l4 μ h; exact h.elim
    | succ n ih =>
      intro l2 l4 μ h
      unfold wM_holders_46 at h
      refine r_aload_n (pc := 46) C d_M_holders_46 rfl 0 rfl ?_
      refine r_getR (pc := 47) (ci := 6) C rfl 2 (by decide) (k_652 C.w) rfl (lay_O hg rfl) d_M_holders_47 ?_
      refine r_iload_n (pc := 50) C d_M_holders_50 rfl 3 rfl ?_
      obtain ⟨b5, h⟩ := h
      refine r_iald (pc := 51) C (lay_A hg rfl) b5 d_M_holders_51 ?_
      refine r_if_eq (tgt := 96) (pc := 52) C d_M_holders_52 (by decide) ?_ ?_
      · intro hc; replace h := h.1 hc
        refine r_sub [0, 1, 2, 3] rfl ?_
        exact hk l2 l4 μ h
      · intro hc; replace h := h.2 hc
        refine r_iload (pc := 55) C d_M_holders_55 4 rfl ?_
        refine r_aload_n (pc := 57) C d_M_holders_57 rfl 0 rfl ?_
        refine r_getR (pc := 58) (ci := 6) C rfl 4 (by decide) (k_654 C.w) rfl (lay_O hg rfl) d_M_holders_58 ?_
        refine r_iload_n (pc := 61) C d_M_holders_61 rfl 3 rfl ?_
        refine r_iald (pc := 62) C (lay_A hg rfl) b5 d_M_holders_62 ?_
        refine r_icmp_ge (tgt := 96) (pc := 63) C d_M_holders_63 (by decide) ?_ ?_
        · intro hc; replace h := h.1 hc
          refine r_sub [0, 1, 2, 3] rfl ?_
          exact hk l2 l4 μ h
        · intro hc; replace h := h.2 hc
          refine r_aload_n (pc := 66) C d_M_holders_66 rfl 0 rfl ?_
          refine r_getR (pc := 67) (ci := 6) C rfl 8 (by decide) (k_658 C.w) rfl (lay_O hg rfl) d_M_holders_67 ?_
          refine r_bipush (pc := 70) C d_M_holders_70 (v := 12) (by decide) ?_
          refine r_iload_n (pc := 72) C d_M_holders_72 rfl 3 rfl ?_
          refine r_imul (pc := 73) C d_M_holders_73 ?_
          refine r_iload (pc := 74) C d_M_holders_74 4 rfl ?_
          refine r_iadd (pc := 76) C d_M_holders_76 ?_
          obtain ⟨b6, h⟩ := h
          refine r_iald (pc := 77) C (lay_A hg rfl) b6 d_M_holders_77 ?_
          refine r_iload_n (pc := 78) C d_M_holders_78 rfl 1 rfl ?_
          refine r_icmp_ne (tgt := 88) (pc := 79) C d_M_holders_79 (by decide) ?_ ?_
          · intro hc; replace h := h.2 hc
            refine r_iload_n (pc := 88) C d_M_holders_88 rfl 2 rfl ?_
            refine r_istore_n (pc := 89) (lv' := [(0, .inr (.inl (some 17))), (1, .inl l1), (3, .inl l3), (4, .inl l4)]) C d_M_holders_89 rfl (by decide) rfl ?_
            refine r_iinc (pc := 90) (v := 1) (lv' := [(2, .inl l2), (0, .inr (.inl (some 17))), (1, .inl l1), (3, .inl l3)]) C d_M_holders_90 4 rfl (by decide) (by decide) rfl ?_
            refine r_goto (tgt := 46) (pc := 93) C d_M_holders_93 (by decide) ?_
            refine r_sub [2, 3, 1, 4, 0] rfl ?_
            exact ih l2 (l4 + 1) μ h
          · intro hc; replace h := h.1 hc
            refine r_iload_n (pc := 82) C d_M_holders_82 rfl 2 rfl ?_
            refine r_iconst (pc := 83) C d_M_holders_83 (v := 1) (by decide) ?_
            refine r_iadd (pc := 84) C d_M_holders_84 ?_
            refine r_goto (tgt := 89) (pc := 85) C d_M_holders_85 (by decide) ?_
            refine r_istore_n (pc := 89) (lv' := [(0, .inr (.inl (some 17))), (1, .inl l1), (3, .inl l3), (4, .inl l4)]) C d_M_holders_89 rfl (by decide) rfl ?_
            refine r_iinc (pc := 90) (v := 1) (lv' := [(2, .inl (l2 + 1)), (0, .inr (.inl (some 17))), (1, .inl l1), (3, .inl l3)]) C d_M_holders_90 4 rfl (by decide) (by decide) rfl ?_
            refine r_goto (tgt := 46) (pc := 93) C d_M_holders_93 (by decide) ?_
            refine r_sub [2, 3, 1, 4, 0] rfl ?_
            exact ih (l2 + 1) (l4 + 1) μ h
  have L_36 : ∀ (l1 : Int32) (k : Int32 → Int32 → Mem → Prop), (∀ (v2 : Int32) (v3 : Int32) (μ : Mem), k v2 v3 μ → Rn K G 5 102 [(0, .inr (.inl (some 17))), (1, .inl l1), (2, .inl v2)] [] μ 0 0) → ∀ (n : Nat) (l2 : Int32) (l3 : Int32) (μ : Mem), wM_holders_36 l1 k n l2 l3 μ → Rn K G 5 36 [(0, .inr (.inl (some 17))), (1, .inl l1), (2, .inl l2), (3, .inl l3)] [] μ 0 0 := by
    intro l1 k hk n
    induction n with
    | zero => intro l2 l3 μ h; exact h.elim
    | succ n ih =>
      intro l2 l3 μ h
      unfold wM_holders_36 at h
      refine r_iload_n (pc := 36) C d_M_holders_36 rfl 3 rfl ?_
      refine r_sipush (pc := 37) C d_M_holders_37 (v := 256) (by decide) ?_
      refine r_icmp_ge (tgt := 102) (pc := 40) C d_M_holders_40 (by decide) ?_ ?_
      · intro hc; replace h := h.1 hc
        refine r_sub [0, 1, 2] rfl ?_
        exact hk l2 l3 μ h
      · intro hc; replace h := h.2 hc
        refine r_iconst (pc := 43) C d_M_holders_43 (v := 0) (by decide) ?_
        refine r_istore (pc := 44) (lv' := [(0, .inr (.inl (some 17))), (1, .inl l1), (2, .inl l2), (3, .inl l3)]) C d_M_holders_44 (by decide) rfl ?_
        obtain ⟨n10, h⟩ := h
        refine r_sub [1, 2, 3, 4, 0] rfl ?_
        refine L_46 l1 l3 _ ?_ n10 l2 0 μ h
        intro v8 v9 μ7 h
        refine r_iinc (pc := 96) (v := 1) (lv' := [(0, .inr (.inl (some 17))), (1, .inl l1), (2, .inl v8)]) C d_M_holders_96 3 rfl (by decide) (by decide) rfl ?_
        refine r_goto (tgt := 36) (pc := 99) C d_M_holders_99 (by decide) ?_
        refine r_sub [1, 2, 3, 0] rfl ?_
        exact ih v8 (l3 + 1) μ7 h
  have L_104 : ∀ (l1 : Int32) (k : Int32 → Int32 → Mem → Prop), (∀ (v2 : Int32) (v3 : Int32) (μ : Mem), k v2 v3 μ → Rn K G 5 136 [(2, .inl v2)] [] μ 0 0) → ∀ (n : Nat) (l2 : Int32) (l3 : Int32) (μ : Mem), wM_holders_104 l1 k n l2 l3 μ → Rn K G 5 104 [(0, .inr (.inl (some 17))), (1, .inl l1), (2, .inl l2), (3, .inl l3)] [] μ 0 0 := by
    intro l1 k hk n
    induction n with
    | zero => intro l2 l3 μ h; exact h.elim
    | succ n ih =>
      intro l2 l3 μ h
      unfold wM_holders_104 at h
      refine r_iload_n (pc := 104) C d_M_holders_104 rfl 3 rfl ?_
      refine r_aload_n (pc := 105) C d_M_holders_105 rfl 0 rfl ?_
      refine r_getI (pc := 106) (ci := 6) C rfl 21 (by decide) (k_671 C.w) rfl (lay_O hg rfl) d_M_holders_106 ?_
      refine r_icmp_ge (tgt := 136) (pc := 109) C d_M_holders_109 (by decide) ?_ ?_
      · intro hc; replace h := h.1 hc
        refine r_sub [2] rfl ?_
        exact hk l2 l3 μ h
      · intro hc; replace h := h.2 hc
        refine r_aload_n (pc := 112) C d_M_holders_112 rfl 0 rfl ?_
        refine r_getR (pc := 113) (ci := 6) C rfl 20 (by decide) (k_670 C.w) rfl (lay_O hg rfl) d_M_holders_113 ?_
        refine r_iload_n (pc := 116) C d_M_holders_116 rfl 3 rfl ?_
        obtain ⟨b14, h⟩ := h
        refine r_iald (pc := 117) C (lay_A hg rfl) b14 d_M_holders_117 ?_
        refine r_iload_n (pc := 118) C d_M_holders_118 rfl 1 rfl ?_
        refine r_icmp_ne (tgt := 128) (pc := 119) C d_M_holders_119 (by decide) ?_ ?_
        · intro hc; replace h := h.2 hc
          refine r_iload_n (pc := 128) C d_M_holders_128 rfl 2 rfl ?_
          refine r_istore_n (pc := 129) (lv' := [(0, .inr (.inl (some 17))), (1, .inl l1), (3, .inl l3)]) C d_M_holders_129 rfl (by decide) rfl ?_
          refine r_iinc (pc := 130) (v := 1) (lv' := [(2, .inl l2), (0, .inr (.inl (some 17))), (1, .inl l1)]) C d_M_holders_130 3 rfl (by decide) (by decide) rfl ?_
          refine r_goto (tgt := 104) (pc := 133) C d_M_holders_133 (by decide) ?_
          refine r_sub [2, 3, 1, 0] rfl ?_
          exact ih l2 (l3 + 1) μ h
        · intro hc; replace h := h.1 hc
          refine r_iload_n (pc := 122) C d_M_holders_122 rfl 2 rfl ?_
          refine r_iconst (pc := 123) C d_M_holders_123 (v := 1) (by decide) ?_
          refine r_iadd (pc := 124) C d_M_holders_124 ?_
          refine r_goto (tgt := 129) (pc := 125) C d_M_holders_125 (by decide) ?_
          refine r_istore_n (pc := 129) (lv' := [(0, .inr (.inl (some 17))), (1, .inl l1), (3, .inl l3)]) C d_M_holders_129 rfl (by decide) rfl ?_
          refine r_iinc (pc := 130) (v := 1) (lv' := [(2, .inl (l2 + 1)), (0, .inr (.inl (some 17))), (1, .inl l1)]) C d_M_holders_130 3 rfl (by decide) (by decide) rfl ?_
          refine r_goto (tgt := 104) (pc := 133) C d_M_holders_133 (by decide) ?_
          refine r_sub [2, 3, 1, 0] rfl ?_
          exact ih (l2 + 1) (l3 + 1) μ h
  unfold wM_holders at h
  refine r_iconst (pc := 0) C d_M_holders_0 (v := 0) (by decide) ?_
  refine r_istore_n (pc := 1) (lv' := [(0, .inr (.inl (some 17))), (1, .inl a1)]) C d_M_holders_1 rfl (by decide) rfl ?_
  refine r_iconst (pc := 2) C d_M_holders_2 (v := 0) (by decide) ?_
  refine r_istore_n (pc := 3) (lv' := [(2, .inl 0), (0, .inr (.inl (some 17))), (1, .inl a1)]) C d_M_holders_3 rfl (by decide) rfl ?_
  obtain ⟨n20, h⟩ := h
  refine r_sub [2, 3, 1, 0] rfl ?_
  refine L_4 a1 _ ?_ n20 0 0 μ h
  intro v3 v4 μ2 h
  refine r_iconst (pc := 34) C d_M_holders_34 (v := 0) (by decide) ?_
  refine r_istore_n (pc := 35) (lv' := [(0, .inr (.inl (some 17))), (1, .inl a1), (2, .inl v3)]) C d_M_holders_35 rfl (by decide) rfl ?_
  obtain ⟨n19, h⟩ := h
  refine r_sub [1, 2, 3, 0] rfl ?_
  refine L_36 a1 _ ?_ n19 v3 0 μ2 h
  intro v12 v13 μ11 h
  refine r_iconst (pc := 102) C d_M_holders_102 (v := 0) (by decide) ?_
  refine r_istore_n (pc := 103) (lv' := [(0, .inr (.inl (some 17))), (1, .inl a1), (2, .inl v12)]) C d_M_holders_103 rfl (by decide) rfl ?_
  obtain ⟨n18, h⟩ := h
  refine r_sub [1, 2, 3, 0] rfl ?_
  refine L_104 a1 _ ?_ n18 v12 0 μ11 h
  intro v16 v17 μ15 h
  refine r_iload_n (pc := 136) C d_M_holders_136 rfl 0 rfl ?_
  exact r_iret (pc := 137) C Q d_M_holders_137 (by decide) (by decide) h
theorem c_M_countAnew {l : Launch} (hl : l.stackTraces = false) {G : Gl} (hg : gf G = true) {post : Mem → Prop} {μ : Mem} (h : wM_countAnew post μ) : Ct l G i_M_countAnew [.inr (.inl (some 17))] μ (poV post) noX := by
  refine ct_of hl (by decide) (Nat.le_of_ble_eq_true rfl) ?_
  intro K hKl C Q hE
  clear hl hKl
  replace C : Cx K G prog_8_method_32_code "LineCollectorModel" 4 { frames := 3, cells := 0, slots := 0, locals := 67 } := C
  replace Q : Cq K G { frames := 3, cells := 0, slots := 0, locals := 67 } (none) (poV post) noX := Q
  show Rn K G 4 0 [(0, .inr (.inl (some 17)))] [] μ 0 0
  have L_2 : ∀ (k : Int32 → Mem → Prop), (∀ (v1 : Int32) (μ : Mem), k v1 μ → Rn K G 4 66 [(0, .inr (.inl (some 17)))] [] μ 0 0) → ∀ (n : Nat) (l1 : Int32) (μ : Mem), wM_countAnew_2 k n l1 μ → Rn K G 4 2 [(0, .inr (.inl (some 17))), (1, .inl l1)] [] μ 0 0 := by
    intro k hk n
    induction n with
    | zero => intro l1 μ h; exact h.elim
    | succ n ih =>
      intro l1 μ h
      unfold wM_countAnew_2 at h
      refine r_iload_n (pc := 2) C d_M_countAnew_2 rfl 1 rfl ?_
      refine r_sipush (pc := 3) C d_M_countAnew_3 (v := 128) (by decide) ?_
      refine r_icmp_ge (tgt := 66) (pc := 6) C d_M_countAnew_6 (by decide) ?_ ?_
      · intro hc; replace h := h.1 hc
        refine r_sub [0] rfl ?_
        exact hk l1 μ h
      · intro hc; replace h := h.2 hc
        refine r_aload_n (pc := 9) C d_M_countAnew_9 rfl 0 rfl ?_
        refine r_iload_n (pc := 10) C d_M_countAnew_10 rfl 1 rfl ?_
        refine r_cVi (pc := 11) (a' := 0) (b' := 0) (As := [.inl l1]) (ci := 6) C (c_M_objectAt C.s hg h) o_M_objectAt rfl (lay_O hg rfl) (k_859 C.w) rfl ⟨by decide, by decide, by decide, by decide⟩ rfl rfl (Nat.le_of_ble_eq_true rfl) d_M_countAnew_11 rfl ?_
        intro r2 μ1 h
        refine r_istore_n (pc := 14) (lv' := [(0, .inr (.inl (some 17))), (1, .inl l1)]) C d_M_countAnew_14 rfl (by decide) rfl ?_
        refine r_iload_n (pc := 15) C d_M_countAnew_15 rfl 0 rfl ?_
        refine r_if_lt (tgt := 60) (pc := 16) C d_M_countAnew_16 (by decide) ?_ ?_
        · intro hc; replace h := h.1 hc
          refine r_iinc (pc := 60) (v := 1) (lv' := [(2, .inl r2), (0, .inr (.inl (some 17)))]) C d_M_countAnew_60 2 rfl (by decide) (by decide) rfl ?_
          refine r_goto (tgt := 2) (pc := 63) C d_M_countAnew_63 (by decide) ?_
          refine r_sub [2, 0] rfl ?_
          exact ih (l1 + 1) μ1 h
        · intro hc; replace h := h.2 hc
          refine r_aload_n (pc := 19) C d_M_countAnew_19 rfl 1 rfl ?_
          refine r_getR (pc := 20) (ci := 6) C rfl 6 (by decide) (k_656 C.w) rfl (lay_O hg rfl) d_M_countAnew_20 ?_
          refine r_iload_n (pc := 23) C d_M_countAnew_23 rfl 0 rfl ?_
          obtain ⟨b3, h⟩ := h
          refine r_iald (pc := 24) C (lay_A hg rfl) b3 d_M_countAnew_24 ?_
          refine r_iconst (pc := 25) C d_M_countAnew_25 (v := 3) (by decide) ?_
          refine r_icmp_ne (tgt := 60) (pc := 26) C d_M_countAnew_26 (by decide) ?_ ?_
          · intro hc; replace h := h.2 hc
            refine r_iinc (pc := 60) (v := 1) (lv' := [(2, .inl r2), (0, .inr (.inl (some 17)))]) C d_M_countAnew_60 2 rfl (by decide) (by decide) rfl ?_
            refine r_goto (tgt := 2) (pc := 63) C d_M_countAnew_63 (by decide) ?_
            refine r_sub [2, 0] rfl ?_
            exact ih (l1 + 1) μ1 h
          · intro hc; replace h := h.1 hc
            refine r_aload_n (pc := 29) C d_M_countAnew_29 rfl 1 rfl ?_
            refine r_iload_n (pc := 30) C d_M_countAnew_30 rfl 0 rfl ?_
            refine r_cVi (pc := 31) (a' := 0) (b' := 0) (As := [.inl r2]) (ci := 6) C (c_M_holders C.s hg h) o_M_holders rfl (lay_O hg rfl) (k_867 C.w) rfl ⟨by decide, by decide, by decide, by decide⟩ rfl rfl (Nat.le_of_ble_eq_true rfl) d_M_countAnew_31 rfl ?_
            intro r5 μ4 h
            refine r_istore_n (pc := 34) (lv' := [(2, .inl r2), (0, .inr (.inl (some 17))), (1, .inl l1)]) C d_M_countAnew_34 rfl (by decide) rfl ?_
            refine r_aload_n (pc := 35) C d_M_countAnew_35 rfl 2 rfl ?_
            refine r_getR (pc := 36) (ci := 6) C rfl 6 (by decide) (k_656 C.w) rfl (lay_O hg rfl) d_M_countAnew_36 ?_
            refine r_iload_n (pc := 39) C d_M_countAnew_39 rfl 1 rfl ?_
            refine r_iload_n (pc := 40) C d_M_countAnew_40 rfl 0 rfl ?_
            refine r_iconst (pc := 41) C d_M_countAnew_41 (v := 3) (by decide) ?_
            refine r_icmp_ge (tgt := 49) (pc := 42) C d_M_countAnew_42 (by decide) ?_ ?_
            · intro hc; replace h := h.1 hc
              refine r_iconst (pc := 49) C d_M_countAnew_49 (v := 3) (by decide) ?_
              obtain ⟨b6, h⟩ := h
              refine r_iast (pc := 50) C (lay_A hg rfl) b6 d_M_countAnew_50 ?_
              intro μ7 eμ7; replace h := h μ7 eμ7
              refine r_iload_n (pc := 51) C d_M_countAnew_51 rfl 0 rfl ?_
              refine r_if_ne (tgt := 60) (pc := 52) C d_M_countAnew_52 (by decide) ?_ ?_
              · intro hc; replace h := h.2 hc
                refine r_iinc (pc := 60) (v := 1) (lv' := [(3, .inl r5), (2, .inl r2), (0, .inr (.inl (some 17)))]) C d_M_countAnew_60 3 rfl (by decide) (by decide) rfl ?_
                refine r_goto (tgt := 2) (pc := 63) C d_M_countAnew_63 (by decide) ?_
                refine r_sub [3, 0] rfl ?_
                exact ih (l1 + 1) μ7 h
              · intro hc; replace h := h.1 hc
                refine r_aload_n (pc := 55) C d_M_countAnew_55 rfl 2 rfl ?_
                refine r_iload_n (pc := 56) C d_M_countAnew_56 rfl 1 rfl ?_
                refine r_cVv (pc := 57) (a' := 0) (b' := 0) (As := [.inl r2]) (ci := 6) C (c_M_vanish C.s hg h) o_M_vanish rfl (lay_O hg rfl) (k_799 C.w) rfl ⟨by decide, by decide, by decide, by decide⟩ rfl rfl (Nat.le_of_ble_eq_true rfl) d_M_countAnew_57 rfl ?_
                intro μ8 h
                refine r_iinc (pc := 60) (v := 1) (lv' := [(3, .inl r5), (2, .inl r2), (0, .inr (.inl (some 17)))]) C d_M_countAnew_60 3 rfl (by decide) (by decide) rfl ?_
                refine r_goto (tgt := 2) (pc := 63) C d_M_countAnew_63 (by decide) ?_
                refine r_sub [3, 0] rfl ?_
                exact ih (l1 + 1) μ8 h
            · intro hc; replace h := h.2 hc
              refine r_iload_n (pc := 45) C d_M_countAnew_45 rfl 0 rfl ?_
              refine r_goto (tgt := 50) (pc := 46) C d_M_countAnew_46 (by decide) ?_
              obtain ⟨b9, h⟩ := h
              refine r_iast (pc := 50) C (lay_A hg rfl) b9 d_M_countAnew_50 ?_
              intro μ10 eμ10; replace h := h μ10 eμ10
              refine r_iload_n (pc := 51) C d_M_countAnew_51 rfl 0 rfl ?_
              refine r_if_ne (tgt := 60) (pc := 52) C d_M_countAnew_52 (by decide) ?_ ?_
              · intro hc; replace h := h.2 hc
                refine r_iinc (pc := 60) (v := 1) (lv' := [(3, .inl r5), (2, .inl r2), (0, .inr (.inl (some 17)))]) C d_M_countAnew_60 3 rfl (by decide) (by decide) rfl ?_
                refine r_goto (tgt := 2) (pc := 63) C d_M_countAnew_63 (by decide) ?_
                refine r_sub [3, 0] rfl ?_
                exact ih (l1 + 1) μ10 h
              · intro hc; replace h := h.1 hc
                refine r_aload_n (pc := 55) C d_M_countAnew_55 rfl 2 rfl ?_
                refine r_iload_n (pc := 56) C d_M_countAnew_56 rfl 1 rfl ?_
                refine r_cVv (pc := 57) (a' := 0) (b' := 0) (As := [.inl r2]) (ci := 6) C (c_M_vanish C.s hg h) o_M_vanish rfl (lay_O hg rfl) (k_799 C.w) rfl ⟨by decide, by decide, by decide, by decide⟩ rfl rfl (Nat.le_of_ble_eq_true rfl) d_M_countAnew_57 rfl ?_
                intro μ11 h
                refine r_iinc (pc := 60) (v := 1) (lv' := [(3, .inl r5), (2, .inl r2), (0, .inr (.inl (some 17)))]) C d_M_countAnew_60 3 rfl (by decide) (by decide) rfl ?_
                refine r_goto (tgt := 2) (pc := 63) C d_M_countAnew_63 (by decide) ?_
                refine r_sub [3, 0] rfl ?_
                exact ih (l1 + 1) μ11 h
  have L_68 : ∀ (k : Int32 → Mem → Prop), (∀ (v1 : Int32) (μ : Mem), k v1 μ → Rn K G 4 88 [] [] μ 0 0) → ∀ (n : Nat) (l1 : Int32) (μ : Mem), wM_countAnew_68 k n l1 μ → Rn K G 4 68 [(0, .inr (.inl (some 17))), (1, .inl l1)] [] μ 0 0 := by
    intro k hk n
    induction n with
    | zero => intro l1 μ h; exact h.elim
    | succ n ih =>
      intro l1 μ h
      unfold wM_countAnew_68 at h
      refine r_iload_n (pc := 68) C d_M_countAnew_68 rfl 1 rfl ?_
      refine r_sipush (pc := 69) C d_M_countAnew_69 (v := 256) (by decide) ?_
      refine r_icmp_ge (tgt := 88) (pc := 72) C d_M_countAnew_72 (by decide) ?_ ?_
      · intro hc; replace h := h.1 hc
        refine r_sub [] rfl ?_
        exact hk l1 μ h
      · intro hc; replace h := h.2 hc
        refine r_aload_n (pc := 75) C d_M_countAnew_75 rfl 0 rfl ?_
        refine r_getR (pc := 76) (ci := 6) C rfl 7 (by decide) (k_657 C.w) rfl (lay_O hg rfl) d_M_countAnew_76 ?_
        refine r_iload_n (pc := 79) C d_M_countAnew_79 rfl 1 rfl ?_
        refine r_iconst (pc := 80) C d_M_countAnew_80 (v := 0) (by decide) ?_
        obtain ⟨b14, h⟩ := h
        refine r_iast (pc := 81) C (lay_A hg rfl) b14 d_M_countAnew_81 ?_
        intro μ15 eμ15; replace h := h μ15 eμ15
        refine r_iinc (pc := 82) (v := 1) (lv' := [(0, .inr (.inl (some 17)))]) C d_M_countAnew_82 1 rfl (by decide) (by decide) rfl ?_
        refine r_goto (tgt := 68) (pc := 85) C d_M_countAnew_85 (by decide) ?_
        refine r_sub [1, 0] rfl ?_
        exact ih (l1 + 1) μ15 h
  unfold wM_countAnew at h
  refine r_iconst (pc := 0) C d_M_countAnew_0 (v := 0) (by decide) ?_
  refine r_istore_n (pc := 1) (lv' := [(0, .inr (.inl (some 17)))]) C d_M_countAnew_1 rfl (by decide) rfl ?_
  obtain ⟨n19, h⟩ := h
  refine r_sub [1, 0] rfl ?_
  refine L_2 _ ?_ n19 0 μ h
  intro v13 μ12 h
  refine r_iconst (pc := 66) C d_M_countAnew_66 (v := 0) (by decide) ?_
  refine r_istore_n (pc := 67) (lv' := [(0, .inr (.inl (some 17)))]) C d_M_countAnew_67 rfl (by decide) rfl ?_
  obtain ⟨n18, h⟩ := h
  refine r_sub [1, 0] rfl ?_
  refine L_68 _ ?_ n18 0 μ12 h
  intro v17 μ16 h
  exact r_vret (pc := 88) C Q d_M_countAnew_88 (by decide) (by decide) h
theorem c_M_usedLines {l : Launch} (hl : l.stackTraces = false) {G : Gl} (hg : gf G = true) {a1 : Int32} {post : Int32 → Mem → Prop} {μ : Mem} (h : wM_usedLines a1 post μ) : Ct l G i_M_usedLines [.inr (.inl (some 17)), .inl a1] μ (poI post) noX := by
  refine ct_of hl (by decide) (Nat.le_of_ble_eq_true rfl) ?_
  intro K hKl C Q hE
  clear hl hKl
  replace C : Cx K G prog_8_method_33_code "LineCollectorModel" 4 { frames := 1, cells := 0, slots := 0, locals := 23 } := C
  replace Q : Cq K G { frames := 1, cells := 0, slots := 0, locals := 23 } (some .int) (poI post) noX := Q
  show Rn K G 4 0 [(0, .inr (.inl (some 17))), (1, .inl a1)] [] μ 0 0
  have L_7 : ∀ (l1 : Int32) (k : Int32 → Int32 → Mem → Prop), (∀ (v2 : Int32) (v3 : Int32) (μ : Mem), k v2 v3 μ → Rn K G 4 40 [(2, .inl v2)] [] μ 0 0) → ∀ (n : Nat) (l2 : Int32) (l3 : Int32) (μ : Mem), wM_usedLines_7 l1 k n l2 l3 μ → Rn K G 4 7 [(0, .inr (.inl (some 17))), (1, .inl l1), (2, .inl l2), (3, .inl l3)] [] μ 0 0 := by
    intro l1 k hk n
    induction n with
    | zero => intro l2 l3 μ h; exact h.elim
    | succ n ih =>
      intro l2 l3 μ h
      unfold wM_usedLines_7 at h
      refine r_iload_n (pc := 7) C d_M_usedLines_7 rfl 3 rfl ?_
      refine r_bipush (pc := 8) C d_M_usedLines_8 (v := 8) (by decide) ?_
      refine r_iload_n (pc := 10) C d_M_usedLines_10 rfl 1 rfl ?_
      refine r_imul (pc := 11) C d_M_usedLines_11 ?_
      refine r_bipush (pc := 12) C d_M_usedLines_12 (v := 8) (by decide) ?_
      refine r_iadd (pc := 14) C d_M_usedLines_14 ?_
      refine r_icmp_ge (tgt := 40) (pc := 15) C d_M_usedLines_15 (by decide) ?_ ?_
      · intro hc; replace h := h.1 hc
        refine r_sub [2] rfl ?_
        exact hk l2 l3 μ h
      · intro hc; replace h := h.2 hc
        refine r_aload_n (pc := 18) C d_M_usedLines_18 rfl 0 rfl ?_
        refine r_iload_n (pc := 19) C d_M_usedLines_19 rfl 3 rfl ?_
        refine r_cVi (pc := 20) (a' := 0) (b' := 0) (As := [.inl l3]) (ci := 6) C (c_M_isUsed C.s hg h) o_M_isUsed rfl (lay_O hg rfl) (k_767 C.w) rfl ⟨by decide, by decide, by decide, by decide⟩ rfl rfl (Nat.le_of_ble_eq_true rfl) d_M_usedLines_20 rfl ?_
        intro r2 μ1 h
        refine r_if_eq (tgt := 32) (pc := 23) C d_M_usedLines_23 (by decide) ?_ ?_
        · intro hc; replace h := h.1 hc
          refine r_iload_n (pc := 32) C d_M_usedLines_32 rfl 2 rfl ?_
          refine r_istore_n (pc := 33) (lv' := [(0, .inr (.inl (some 17))), (1, .inl l1), (3, .inl l3)]) C d_M_usedLines_33 rfl (by decide) rfl ?_
          refine r_iinc (pc := 34) (v := 1) (lv' := [(2, .inl l2), (0, .inr (.inl (some 17))), (1, .inl l1)]) C d_M_usedLines_34 3 rfl (by decide) (by decide) rfl ?_
          refine r_goto (tgt := 7) (pc := 37) C d_M_usedLines_37 (by decide) ?_
          refine r_sub [2, 3, 1, 0] rfl ?_
          exact ih l2 (l3 + 1) μ1 h
        · intro hc; replace h := h.2 hc
          refine r_iload_n (pc := 26) C d_M_usedLines_26 rfl 2 rfl ?_
          refine r_iconst (pc := 27) C d_M_usedLines_27 (v := 1) (by decide) ?_
          refine r_iadd (pc := 28) C d_M_usedLines_28 ?_
          refine r_goto (tgt := 33) (pc := 29) C d_M_usedLines_29 (by decide) ?_
          refine r_istore_n (pc := 33) (lv' := [(0, .inr (.inl (some 17))), (1, .inl l1), (3, .inl l3)]) C d_M_usedLines_33 rfl (by decide) rfl ?_
          refine r_iinc (pc := 34) (v := 1) (lv' := [(2, .inl (l2 + 1)), (0, .inr (.inl (some 17))), (1, .inl l1)]) C d_M_usedLines_34 3 rfl (by decide) (by decide) rfl ?_
          refine r_goto (tgt := 7) (pc := 37) C d_M_usedLines_37 (by decide) ?_
          refine r_sub [2, 3, 1, 0] rfl ?_
          exact ih (l2 + 1) (l3 + 1) μ1 h
  unfold wM_usedLines at h
  refine r_iconst (pc := 0) C d_M_usedLines_0 (v := 0) (by decide) ?_
  refine r_istore_n (pc := 1) (lv' := [(0, .inr (.inl (some 17))), (1, .inl a1)]) C d_M_usedLines_1 rfl (by decide) rfl ?_
  refine r_bipush (pc := 2) C d_M_usedLines_2 (v := 8) (by decide) ?_
  refine r_iload_n (pc := 4) C d_M_usedLines_4 rfl 2 rfl ?_
  refine r_imul (pc := 5) C d_M_usedLines_5 ?_
  refine r_istore_n (pc := 6) (lv' := [(2, .inl 0), (0, .inr (.inl (some 17))), (1, .inl a1)]) C d_M_usedLines_6 rfl (by decide) rfl ?_
  obtain ⟨n6, h⟩ := h
  refine r_sub [2, 3, 1, 0] rfl ?_
  refine L_7 a1 _ ?_ n6 0 (8 * a1) μ h
  intro v4 v5 μ3 h
  refine r_iload_n (pc := 40) C d_M_usedLines_40 rfl 0 rfl ?_
  exact r_iret (pc := 41) C Q d_M_usedLines_41 (by decide) (by decide) h
theorem c_M_clearBlock {l : Launch} (hl : l.stackTraces = false) {G : Gl} (hg : gf G = true) {post : Mem → Prop} {μ : Mem} (h : wM_clearBlock post μ) : Ct l G i_M_clearBlock [.inr (.inl (some 17))] μ (poV post) noX := by
  refine ct_of hl (by decide) (Nat.le_of_ble_eq_true rfl) ?_
  intro K hKl C Q hE
  clear hl hKl
  replace C : Cx K G prog_8_method_34_code "LineCollectorModel" 4 { frames := 6, cells := 0, slots := 0, locals := 132 } := C
  replace Q : Cq K G { frames := 6, cells := 0, slots := 0, locals := 132 } (none) (poV post) noX := Q
  show Rn K G 4 0 [(0, .inr (.inl (some 17)))] [] μ 0 0
  have L_4 : ∀ (k : Int32 → Int32 → Mem → Prop), (∀ (v1 : Int32) (v2 : Int32) (μ : Mem), k v1 v2 μ → Rn K G 4 44 [(0, .inr (.inl (some 17))), (1, .inl v1)] [] μ 0 0) → ∀ (n : Nat) (l1 : Int32) (l2 : Int32) (μ : Mem), wM_clearBlock_4 k n l1 l2 μ → Rn K G 4 4 [(0, .inr (.inl (some 17))), (1, .inl l1), (2, .inl l2)] [] μ 0 0 := by
    intro k hk n
    induction n with
    | zero => intro l1 l2 μ h; exact h.elim
    | succ n ih =>
      intro l1 l2 μ h
      unfold wM_clearBlock_4 at h
      refine r_iload_n (pc := 4) C d_M_clearBlock_4 rfl 2 rfl ?_
      refine r_if_lt (tgt := 44) (pc := 5) C d_M_clearBlock_5 (by decide) ?_ ?_
      · intro hc; replace h := h.1 hc
        refine r_sub [0, 1] rfl ?_
        exact hk l1 l2 μ h
      · intro hc; replace h := h.2 hc
        refine r_aload_n (pc := 8) C d_M_clearBlock_8 rfl 0 rfl ?_
        refine r_iload_n (pc := 9) C d_M_clearBlock_9 rfl 2 rfl ?_
        refine r_cVi (pc := 10) (a' := 0) (b' := 0) (As := [.inl l2]) (ci := 6) C (c_M_usedLines C.s hg h) o_M_usedLines rfl (lay_O hg rfl) (k_875 C.w) rfl ⟨by decide, by decide, by decide, by decide⟩ rfl rfl (Nat.le_of_ble_eq_true rfl) d_M_clearBlock_10 rfl ?_
        intro r2 μ1 h
        refine r_istore_n (pc := 13) (lv' := [(0, .inr (.inl (some 17))), (1, .inl l1), (2, .inl l2)]) C d_M_clearBlock_13 rfl (by decide) rfl ?_
        refine r_iload_n (pc := 14) C d_M_clearBlock_14 rfl 0 rfl ?_
        refine r_if_le (tgt := 38) (pc := 15) C d_M_clearBlock_15 (by decide) ?_ ?_
        · intro hc; replace h := h.1 hc
          refine r_iinc (pc := 38) (v := (-1)) (lv' := [(3, .inl r2), (0, .inr (.inl (some 17))), (1, .inl l1)]) C d_M_clearBlock_38 3 rfl (by decide) (by decide) rfl ?_
          refine r_goto (tgt := 4) (pc := 41) C d_M_clearBlock_41 (by decide) ?_
          refine r_sub [2, 3, 0] rfl ?_
          exact ih l1 (l2 + (-1)) μ1 h
        · intro hc; replace h := h.2 hc
          refine r_iload_n (pc := 18) C d_M_clearBlock_18 rfl 0 rfl ?_
          refine r_iconst (pc := 19) C d_M_clearBlock_19 (v := 4) (by decide) ?_
          refine r_icmp_ge (tgt := 38) (pc := 20) C d_M_clearBlock_20 (by decide) ?_ ?_
          · intro hc; replace h := h.1 hc
            refine r_iinc (pc := 38) (v := (-1)) (lv' := [(3, .inl r2), (0, .inr (.inl (some 17))), (1, .inl l1)]) C d_M_clearBlock_38 3 rfl (by decide) (by decide) rfl ?_
            refine r_goto (tgt := 4) (pc := 41) C d_M_clearBlock_41 (by decide) ?_
            refine r_sub [2, 3, 0] rfl ?_
            exact ih l1 (l2 + (-1)) μ1 h
          · intro hc; replace h := h.2 hc
            refine r_iload_n (pc := 23) C d_M_clearBlock_23 rfl 2 rfl ?_
            refine r_if_lt (tgt := 36) (pc := 24) C d_M_clearBlock_24 (by decide) ?_ ?_
            · intro hc; replace h := h.1 hc
              refine r_iload_n (pc := 36) C d_M_clearBlock_36 rfl 3 rfl ?_
              refine r_istore_n (pc := 37) (lv' := [(3, .inl r2), (0, .inr (.inl (some 17))), (2, .inl l2)]) C d_M_clearBlock_37 rfl (by decide) rfl ?_
              refine r_iinc (pc := 38) (v := (-1)) (lv' := [(1, .inl l2), (3, .inl r2), (0, .inr (.inl (some 17)))]) C d_M_clearBlock_38 3 rfl (by decide) (by decide) rfl ?_
              refine r_goto (tgt := 4) (pc := 41) C d_M_clearBlock_41 (by decide) ?_
              refine r_sub [3, 1, 0] rfl ?_
              exact ih l2 (l2 + (-1)) μ1 h
            · intro hc; replace h := h.2 hc
              refine r_iload_n (pc := 27) C d_M_clearBlock_27 rfl 0 rfl ?_
              refine r_aload_n (pc := 28) C d_M_clearBlock_28 rfl 1 rfl ?_
              refine r_iload_n (pc := 29) C d_M_clearBlock_29 rfl 2 rfl ?_
              refine r_cVi (pc := 30) (a' := 0) (b' := 0) (As := [.inl l1]) (ci := 6) C (c_M_usedLines C.s hg h) o_M_usedLines rfl (lay_O hg rfl) (k_875 C.w) rfl ⟨by decide, by decide, by decide, by decide⟩ rfl rfl (Nat.le_of_ble_eq_true rfl) d_M_clearBlock_30 rfl ?_
              intro r4 μ3 h
              refine r_icmp_gt (tgt := 38) (pc := 33) C d_M_clearBlock_33 (by decide) ?_ ?_
              · intro hc; replace h := h.1 hc
                refine r_iinc (pc := 38) (v := (-1)) (lv' := [(3, .inl r2), (0, .inr (.inl (some 17))), (1, .inl l1)]) C d_M_clearBlock_38 3 rfl (by decide) (by decide) rfl ?_
                refine r_goto (tgt := 4) (pc := 41) C d_M_clearBlock_41 (by decide) ?_
                refine r_sub [2, 3, 0] rfl ?_
                exact ih l1 (l2 + (-1)) μ3 h
              · intro hc; replace h := h.2 hc
                refine r_iload_n (pc := 36) C d_M_clearBlock_36 rfl 3 rfl ?_
                refine r_istore_n (pc := 37) (lv' := [(3, .inl r2), (0, .inr (.inl (some 17))), (2, .inl l2)]) C d_M_clearBlock_37 rfl (by decide) rfl ?_
                refine r_iinc (pc := 38) (v := (-1)) (lv' := [(1, .inl l2), (3, .inl r2), (0, .inr (.inl (some 17)))]) C d_M_clearBlock_38 3 rfl (by decide) (by decide) rfl ?_
                refine r_goto (tgt := 4) (pc := 41) C d_M_clearBlock_41 (by decide) ?_
                refine r_sub [3, 1, 0] rfl ?_
                exact ih l2 (l2 + (-1)) μ3 h
  have L_63 : ∀ (l1 : Int32) (k : Int32 → Mem → Prop), (∀ (v2 : Int32) (μ : Mem), k v2 μ → Rn K G 4 95 [(0, .inr (.inl (some 17)))] [] μ 0 0) → ∀ (n : Nat) (l2 : Int32) (μ : Mem), wM_clearBlock_63 l1 k n l2 μ → Rn K G 4 63 [(0, .inr (.inl (some 17))), (1, .inl l1), (2, .inl l2)] [] μ 0 0 := by
    intro l1 k hk n
    induction n with
    | zero => intro l2 μ h; exact h.elim
    | succ n ih =>
      intro l2 μ h
      unfold wM_clearBlock_63 at h
      refine r_iload_n (pc := 63) C d_M_clearBlock_63 rfl 2 rfl ?_
      refine r_bipush (pc := 64) C d_M_clearBlock_64 (v := 32) (by decide) ?_
      refine r_iload_n (pc := 66) C d_M_clearBlock_66 rfl 1 rfl ?_
      refine r_imul (pc := 67) C d_M_clearBlock_67 ?_
      refine r_bipush (pc := 68) C d_M_clearBlock_68 (v := 32) (by decide) ?_
      refine r_iadd (pc := 70) C d_M_clearBlock_70 ?_
      refine r_icmp_ge (tgt := 95) (pc := 71) C d_M_clearBlock_71 (by decide) ?_ ?_
      · intro hc; replace h := h.1 hc
        refine r_sub [0] rfl ?_
        exact hk l2 μ h
      · intro hc; replace h := h.2 hc
        refine r_aload_n (pc := 74) C d_M_clearBlock_74 rfl 0 rfl ?_
        refine r_iload_n (pc := 75) C d_M_clearBlock_75 rfl 2 rfl ?_
        refine r_cVi (pc := 76) (a' := 0) (b' := 0) (As := [.inl l2]) (ci := 6) C (c_M_objectAt C.s hg h) o_M_objectAt rfl (lay_O hg rfl) (k_859 C.w) rfl ⟨by decide, by decide, by decide, by decide⟩ rfl rfl (Nat.le_of_ble_eq_true rfl) d_M_clearBlock_76 rfl ?_
        intro r11 μ10 h
        refine r_istore_n (pc := 79) (lv' := [(0, .inr (.inl (some 17))), (1, .inl l1), (2, .inl l2)]) C d_M_clearBlock_79 rfl (by decide) rfl ?_
        refine r_iload_n (pc := 80) C d_M_clearBlock_80 rfl 0 rfl ?_
        refine r_if_lt (tgt := 89) (pc := 81) C d_M_clearBlock_81 (by decide) ?_ ?_
        · intro hc; replace h := h.1 hc
          refine r_iinc (pc := 89) (v := 1) (lv' := [(3, .inl r11), (0, .inr (.inl (some 17))), (1, .inl l1)]) C d_M_clearBlock_89 3 rfl (by decide) (by decide) rfl ?_
          refine r_goto (tgt := 63) (pc := 92) C d_M_clearBlock_92 (by decide) ?_
          refine r_sub [2, 3, 0] rfl ?_
          exact ih (l2 + 1) μ10 h
        · intro hc; replace h := h.2 hc
          refine r_aload_n (pc := 84) C d_M_clearBlock_84 rfl 1 rfl ?_
          refine r_iload_n (pc := 85) C d_M_clearBlock_85 rfl 0 rfl ?_
          refine r_cVv (pc := 86) (a' := 0) (b' := 0) (As := [.inl r11]) (ci := 6) C (c_M_shift C.s hg h) o_M_shift rfl (lay_O hg rfl) (k_835 C.w) rfl ⟨by decide, by decide, by decide, by decide⟩ rfl rfl (Nat.le_of_ble_eq_true rfl) d_M_clearBlock_86 rfl ?_
          intro μ12 h
          refine r_iinc (pc := 89) (v := 1) (lv' := [(3, .inl r11), (0, .inr (.inl (some 17))), (1, .inl l1)]) C d_M_clearBlock_89 3 rfl (by decide) (by decide) rfl ?_
          refine r_goto (tgt := 63) (pc := 92) C d_M_clearBlock_92 (by decide) ?_
          refine r_sub [2, 3, 0] rfl ?_
          exact ih (l2 + 1) μ12 h
  unfold wM_clearBlock at h
  refine r_iconst (pc := 0) C d_M_clearBlock_0 (v := (-1)) (by decide) ?_
  refine r_istore_n (pc := 1) (lv' := [(0, .inr (.inl (some 17)))]) C d_M_clearBlock_1 rfl (by decide) rfl ?_
  refine r_iconst (pc := 2) C d_M_clearBlock_2 (v := 3) (by decide) ?_
  refine r_istore_n (pc := 3) (lv' := [(1, .inl (-1)), (0, .inr (.inl (some 17)))]) C d_M_clearBlock_3 rfl (by decide) rfl ?_
  obtain ⟨n18, h⟩ := h
  refine r_sub [2, 1, 0] rfl ?_
  refine L_4 _ ?_ n18 (-1) 3 μ h
  intro v6 v7 μ5 h
  refine r_iload_n (pc := 44) C d_M_clearBlock_44 rfl 1 rfl ?_
  refine r_if_ge (tgt := 49) (pc := 45) C d_M_clearBlock_45 (by decide) ?_ ?_
  · intro hc; replace h := h.1 hc
    refine r_aload_n (pc := 49) C d_M_clearBlock_49 rfl 0 rfl ?_
    refine r_cVv (pc := 50) (a' := 0) (b' := 0) (As := []) (ci := 6) C (c_M_forget C.s hg h) o_M_forget rfl (lay_O hg rfl) (k_819 C.w) rfl ⟨by decide, by decide, by decide, by decide⟩ rfl rfl (Nat.le_of_ble_eq_true rfl) d_M_clearBlock_50 rfl ?_
    intro μ8 h
    refine r_aload_n (pc := 53) C d_M_clearBlock_53 rfl 0 rfl ?_
    refine r_iload_n (pc := 54) C d_M_clearBlock_54 rfl 1 rfl ?_
    refine r_putI (pc := 55) (ci := 6) C rfl 19 (by decide) (k_669 C.w) rfl rfl p_I (lay_O hg rfl) d_M_clearBlock_55 ?_
    intro μ9 eμ9; replace h := h μ9 eμ9
    refine r_bipush (pc := 58) C d_M_clearBlock_58 (v := 32) (by decide) ?_
    refine r_iload_n (pc := 60) C d_M_clearBlock_60 rfl 1 rfl ?_
    refine r_imul (pc := 61) C d_M_clearBlock_61 ?_
    refine r_istore_n (pc := 62) (lv' := [(0, .inr (.inl (some 17))), (1, .inl v6)]) C d_M_clearBlock_62 rfl (by decide) rfl ?_
    obtain ⟨n17, h⟩ := h
    refine r_sub [1, 2, 0] rfl ?_
    refine L_63 v6 _ ?_ n17 (32 * v6) μ9 h
    intro v14 μ13 h
    refine r_aload_n (pc := 95) C d_M_clearBlock_95 rfl 0 rfl ?_
    refine r_iconst (pc := 96) C d_M_clearBlock_96 (v := (-1)) (by decide) ?_
    refine r_putI (pc := 97) (ci := 6) C rfl 19 (by decide) (k_669 C.w) rfl rfl p_I (lay_O hg rfl) d_M_clearBlock_97 ?_
    intro μ15 eμ15; replace h := h μ15 eμ15
    refine r_aload_n (pc := 100) C d_M_clearBlock_100 rfl 0 rfl ?_
    refine r_cVv (pc := 101) (a' := 0) (b' := 0) (As := []) (ci := 6) C (c_M_endStep C.s hg h) o_M_endStep rfl (lay_O hg rfl) (k_843 C.w) rfl ⟨by decide, by decide, by decide, by decide⟩ rfl rfl (Nat.le_of_ble_eq_true rfl) d_M_clearBlock_101 rfl ?_
    intro μ16 h
    exact r_vret (pc := 104) C Q d_M_clearBlock_104 (by decide) (by decide) h
  · intro hc; replace h := h.2 hc
    exact r_vret (pc := 48) C Q d_M_clearBlock_48 (by decide) (by decide) h
theorem c_M_halt {l : Launch} (hl : l.stackTraces = false) {G : Gl} (hg : gf G = true) {a1 : Int32} {post : Int32 → Mem → Prop} {μ : Mem} (h : wM_halt a1 post μ) : Ct l G i_M_halt [.inr (.inl (some 17)), .inl a1] μ (poI post) noX := by
  refine ct_of hl (by decide) (Nat.le_of_ble_eq_true rfl) ?_
  intro K hKl C Q hE
  clear hl hKl
  replace C : Cx K G prog_8_method_35_code "LineCollectorModel" 4 { frames := 8, cells := 0, slots := 0, locals := 177 } := C
  replace Q : Cq K G { frames := 8, cells := 0, slots := 0, locals := 177 } (some .int) (poI post) noX := Q
  show Rn K G 4 0 [(0, .inr (.inl (some 17))), (1, .inl a1)] [] μ 0 0
  have L_119 : ∀ (l2 : Int32) (k : Int32 → Mem → Prop), (∀ (v3 : Int32) (μ : Mem), k v3 μ → Rn K G 4 143 [(2, .inl l2)] [] μ 0 0) → ∀ (n : Nat) (l3 : Int32) (μ : Mem), wM_halt_119 k n l3 μ → Rn K G 4 119 [(0, .inr (.inl (some 17))), (2, .inl l2), (3, .inl l3)] [] μ 0 0 := by
    intro l2 k hk n
    induction n with
    | zero => intro l3 μ h; exact h.elim
    | succ n ih =>
      intro l3 μ h
      unfold wM_halt_119 at h
      refine r_iload_n (pc := 119) C d_M_halt_119 rfl 2 rfl ?_
      refine r_bipush (pc := 120) C d_M_halt_120 (v := 6) (by decide) ?_
      refine r_icmp_ge (tgt := 143) (pc := 122) C d_M_halt_122 (by decide) ?_ ?_
      · intro hc; replace h := h.1 hc
        refine r_sub [1] rfl ?_
        exact hk l3 μ h
      · intro hc; replace h := h.2 hc
        refine r_aload_n (pc := 125) C d_M_halt_125 rfl 0 rfl ?_
        refine r_getR (pc := 126) (ci := 6) C rfl 12 (by decide) (k_662 C.w) rfl (lay_O hg rfl) d_M_halt_126 ?_
        refine r_iload_n (pc := 129) C d_M_halt_129 rfl 2 rfl ?_
        refine r_aload_n (pc := 130) C d_M_halt_130 rfl 0 rfl ?_
        refine r_getR (pc := 131) (ci := 6) C rfl 11 (by decide) (k_661 C.w) rfl (lay_O hg rfl) d_M_halt_131 ?_
        refine r_iload_n (pc := 134) C d_M_halt_134 rfl 2 rfl ?_
        obtain ⟨b9, h⟩ := h
        refine r_iald (pc := 135) C (lay_A hg rfl) b9 d_M_halt_135 ?_
        refine r_iast (pc := 136) C (lay_A hg rfl) b9 d_M_halt_136 ?_
        intro μ10 eμ10; replace h := h μ10 eμ10
        refine r_iinc (pc := 137) (v := 1) (lv' := [(0, .inr (.inl (some 17))), (2, .inl l2)]) C d_M_halt_137 2 rfl (by decide) (by decide) rfl ?_
        refine r_goto (tgt := 119) (pc := 140) C d_M_halt_140 (by decide) ?_
        refine r_sub [1, 2, 0] rfl ?_
        exact ih (l3 + 1) μ10 h
  have J_103 : ∀ (l2 : Int32) (μ : Mem), wM_halt_103 l2 post μ → Rn K G 4 103 [(0, .inr (.inl (some 17))), (2, .inl l2)] [] μ 0 0 := by
    intro l2 μ h
    unfold wM_halt_103 at h
    refine r_aload_n (pc := 103) C d_M_halt_103 rfl 0 rfl ?_
    refine r_cVv (pc := 104) (a' := 0) (b' := 0) (As := []) (ci := 6) C (c_M_forget C.s hg h) o_M_forget rfl (lay_O hg rfl) (k_819 C.w) rfl ⟨by decide, by decide, by decide, by decide⟩ rfl rfl (Nat.le_of_ble_eq_true rfl) d_M_halt_104 rfl ?_
    intro μ7 h
    refine r_aload_n (pc := 107) C d_M_halt_107 rfl 0 rfl ?_
    refine r_dupR (pc := 108) C d_M_halt_108 ?_
    refine r_getI (pc := 109) (ci := 6) C rfl 28 (by decide) (k_678 C.w) rfl (lay_O hg rfl) d_M_halt_109 ?_
    refine r_iconst (pc := 112) C d_M_halt_112 (v := 1) (by decide) ?_
    refine r_iadd (pc := 113) C d_M_halt_113 ?_
    refine r_putI (pc := 114) (ci := 6) C rfl 28 (by decide) (k_678 C.w) rfl rfl p_I (lay_O hg rfl) d_M_halt_114 ?_
    intro μ8 eμ8; replace h := h μ8 eμ8
    refine r_iconst (pc := 117) C d_M_halt_117 (v := 0) (by decide) ?_
    refine r_istore_n (pc := 118) (lv' := [(0, .inr (.inl (some 17))), (2, .inl l2)]) C d_M_halt_118 rfl (by decide) rfl ?_
    obtain ⟨n13, h⟩ := h
    refine r_sub [1, 2, 0] rfl ?_
    refine L_119 l2 _ ?_ n13 0 μ8 h
    intro v12 μ11 h
    refine r_iload_n (pc := 143) C d_M_halt_143 rfl 0 rfl ?_
    exact r_iret (pc := 144) C Q d_M_halt_144 (by decide) (by decide) h
  have L_70 : ∀ (l2 : Int32) (k : Int32 → Mem → Prop), (∀ (v3 : Int32) (μ : Mem), k v3 μ → Rn K G 4 103 [(0, .inr (.inl (some 17))), (2, .inl l2)] [] μ 0 0) → ∀ (n : Nat) (l3 : Int32) (μ : Mem), wM_halt_70 k n l3 μ → Rn K G 4 70 [(0, .inr (.inl (some 17))), (2, .inl l2), (3, .inl l3)] [] μ 0 0 := by
    intro l2 k hk n
    induction n with
    | zero => intro l3 μ h; exact h.elim
    | succ n ih =>
      intro l3 μ h
      unfold wM_halt_70 at h
      refine r_iload_n (pc := 70) C d_M_halt_70 rfl 2 rfl ?_
      refine r_bipush (pc := 71) C d_M_halt_71 (v := 6) (by decide) ?_
      refine r_icmp_ge (tgt := 103) (pc := 73) C d_M_halt_73 (by decide) ?_ ?_
      · intro hc; replace h := h.1 hc
        refine r_sub [0, 1] rfl ?_
        exact hk l3 μ h
      · intro hc; replace h := h.2 hc
        refine r_aload_n (pc := 76) C d_M_halt_76 rfl 0 rfl ?_
        refine r_getR (pc := 77) (ci := 6) C rfl 11 (by decide) (k_661 C.w) rfl (lay_O hg rfl) d_M_halt_77 ?_
        refine r_iload_n (pc := 80) C d_M_halt_80 rfl 2 rfl ?_
        obtain ⟨b15, h⟩ := h
        refine r_iald (pc := 81) C (lay_A hg rfl) b15 d_M_halt_81 ?_
        refine r_if_lt (tgt := 97) (pc := 82) C d_M_halt_82 (by decide) ?_ ?_
        · intro hc; replace h := h.1 hc
          refine r_iinc (pc := 97) (v := 1) (lv' := [(0, .inr (.inl (some 17))), (2, .inl l2)]) C d_M_halt_97 2 rfl (by decide) (by decide) rfl ?_
          refine r_goto (tgt := 70) (pc := 100) C d_M_halt_100 (by decide) ?_
          refine r_sub [1, 2, 0] rfl ?_
          exact ih (l3 + 1) μ h
        · intro hc; replace h := h.2 hc
          refine r_aload_n (pc := 85) C d_M_halt_85 rfl 0 rfl ?_
          refine r_getR (pc := 86) (ci := 6) C rfl 7 (by decide) (k_657 C.w) rfl (lay_O hg rfl) d_M_halt_86 ?_
          refine r_aload_n (pc := 89) C d_M_halt_89 rfl 0 rfl ?_
          refine r_getR (pc := 90) (ci := 6) C rfl 11 (by decide) (k_661 C.w) rfl (lay_O hg rfl) d_M_halt_90 ?_
          refine r_iload_n (pc := 93) C d_M_halt_93 rfl 2 rfl ?_
          refine r_iald (pc := 94) C (lay_A hg rfl) b15 d_M_halt_94 ?_
          refine r_iconst (pc := 95) C d_M_halt_95 (v := 1) (by decide) ?_
          obtain ⟨b16, h⟩ := h
          refine r_iast (pc := 96) C (lay_A hg rfl) b16 d_M_halt_96 ?_
          intro μ17 eμ17; replace h := h μ17 eμ17
          refine r_iinc (pc := 97) (v := 1) (lv' := [(0, .inr (.inl (some 17))), (2, .inl l2)]) C d_M_halt_97 2 rfl (by decide) (by decide) rfl ?_
          refine r_goto (tgt := 70) (pc := 100) C d_M_halt_100 (by decide) ?_
          refine r_sub [1, 2, 0] rfl ?_
          exact ih (l3 + 1) μ17 h
  have J_52 : ∀ (l1 : Int32) (l2 : Int32) (μ : Mem), wM_halt_52 l1 l2 post μ → Rn K G 4 52 [(0, .inr (.inl (some 17))), (1, .inl l1), (2, .inl l2)] [] μ 0 0 := by
    intro l1 l2 μ h
    unfold wM_halt_52 at h
    refine r_iload_n (pc := 52) C d_M_halt_52 rfl 1 rfl ?_
    refine r_if_eq (tgt := 103) (pc := 53) C d_M_halt_53 (by decide) ?_ ?_
    · intro hc; replace h := h.1 hc
      refine r_sub [0, 2] rfl ?_
      exact J_103 l2 μ h
    · intro hc; replace h := h.2 hc
      refine r_aload_n (pc := 56) C d_M_halt_56 rfl 0 rfl ?_
      refine r_getI (pc := 57) (ci := 6) C rfl 27 (by decide) (k_677 C.w) rfl (lay_O hg rfl) d_M_halt_57 ?_
      refine r_if_ne (tgt := 103) (pc := 60) C d_M_halt_60 (by decide) ?_ ?_
      · intro hc; replace h := h.2 hc
        refine r_sub [0, 2] rfl ?_
        exact J_103 l2 μ h
      · intro hc; replace h := h.1 hc
        refine r_aload_n (pc := 63) C d_M_halt_63 rfl 0 rfl ?_
        refine r_iconst (pc := 64) C d_M_halt_64 (v := 1) (by decide) ?_
        refine r_putZ (pc := 65) (ci := 6) C rfl 27 (by decide) (k_677 C.w) rfl rfl p_Z (Or.inr rfl) (lay_O hg rfl) d_M_halt_65 ?_
        intro μ14 eμ14; replace h := h μ14 eμ14
        refine r_iconst (pc := 68) C d_M_halt_68 (v := 0) (by decide) ?_
        refine r_istore_n (pc := 69) (lv' := [(0, .inr (.inl (some 17))), (1, .inl l1), (2, .inl l2)]) C d_M_halt_69 rfl (by decide) rfl ?_
        obtain ⟨n20, h⟩ := h
        refine r_sub [1, 3, 0] rfl ?_
        refine L_70 l2 _ ?_ n20 0 μ14 h
        intro v19 μ18 h
        exact J_103 l2 μ18 h
  unfold wM_halt at h
  refine r_aload_n (pc := 0) C d_M_halt_0 rfl 0 rfl ?_
  refine r_cVv (pc := 1) (a' := 0) (b' := 0) (As := []) (ci := 6) C (c_M_drainAll C.s hg h) o_M_drainAll rfl (lay_O hg rfl) (k_791 C.w) rfl ⟨by decide, by decide, by decide, by decide⟩ rfl rfl (Nat.le_of_ble_eq_true rfl) d_M_halt_1 rfl ?_
  intro μ1 h
  refine r_aload_n (pc := 4) C d_M_halt_4 rfl 0 rfl ?_
  refine r_cVv (pc := 5) (a' := 0) (b' := 0) (As := []) (ci := 6) C (c_M_forget C.s hg h) o_M_forget rfl (lay_O hg rfl) (k_819 C.w) rfl ⟨by decide, by decide, by decide, by decide⟩ rfl rfl (Nat.le_of_ble_eq_true rfl) d_M_halt_5 rfl ?_
  intro μ2 h
  refine r_aload_n (pc := 8) C d_M_halt_8 rfl 0 rfl ?_
  refine r_cVi (pc := 9) (a' := 0) (b' := 0) (As := []) (ci := 6) C (c_M_countSlots C.s hg h) o_M_countSlots rfl (lay_O hg rfl) (k_823 C.w) rfl ⟨by decide, by decide, by decide, by decide⟩ rfl rfl (Nat.le_of_ble_eq_true rfl) d_M_halt_9 rfl ?_
  intro r4 μ3 h
  refine r_istore_n (pc := 12) (lv' := [(0, .inr (.inl (some 17))), (1, .inl a1)]) C d_M_halt_12 rfl (by decide) rfl ?_
  refine r_aload_n (pc := 13) C d_M_halt_13 rfl 1 rfl ?_
  refine r_cVv (pc := 14) (a' := 0) (b' := 0) (As := []) (ci := 6) C (c_M_endStep C.s hg h) o_M_endStep rfl (lay_O hg rfl) (k_843 C.w) rfl ⟨by decide, by decide, by decide, by decide⟩ rfl rfl (Nat.le_of_ble_eq_true rfl) d_M_halt_14 rfl ?_
  intro μ5 h
  refine r_aload_n (pc := 17) C d_M_halt_17 rfl 1 rfl ?_
  refine r_cVv (pc := 18) (a' := 0) (b' := 0) (As := []) (ci := 6) C (c_M_settle C.s hg h) o_M_settle rfl (lay_O hg rfl) (k_847 C.w) rfl ⟨by decide, by decide, by decide, by decide⟩ rfl rfl (Nat.le_of_ble_eq_true rfl) d_M_halt_18 rfl ?_
  intro μ6 h
  refine r_aload_n (pc := 21) C d_M_halt_21 rfl 1 rfl ?_
  refine r_getI (pc := 22) (ci := 6) C rfl 27 (by decide) (k_677 C.w) rfl (lay_O hg rfl) d_M_halt_22 ?_
  refine r_if_eq (tgt := 52) (pc := 25) C d_M_halt_25 (by decide) ?_ ?_
  · intro hc; replace h := h.1 hc
    refine r_sub [1, 2, 0] rfl ?_
    exact J_52 a1 r4 μ6 h
  · intro hc; replace h := h.2 hc
    refine r_aload_n (pc := 28) C d_M_halt_28 rfl 1 rfl ?_
    refine r_cVi (pc := 29) (a' := 0) (b' := 0) (As := []) (ci := 6) C (c_M_greys C.s hg h) o_M_greys rfl (lay_O hg rfl) (k_851 C.w) rfl ⟨by decide, by decide, by decide, by decide⟩ rfl rfl (Nat.le_of_ble_eq_true rfl) d_M_halt_29 rfl ?_
    intro r22 μ21 h
    refine r_if_ne (tgt := 52) (pc := 32) C d_M_halt_32 (by decide) ?_ ?_
    · intro hc; replace h := h.2 hc
      refine r_sub [1, 2, 0] rfl ?_
      exact J_52 a1 r4 μ21 h
    · intro hc; replace h := h.1 hc
      refine r_aload_n (pc := 35) C d_M_halt_35 rfl 1 rfl ?_
      refine r_cVv (pc := 36) (a' := 0) (b' := 0) (As := []) (ci := 6) C (c_M_sweep C.s hg h) o_M_sweep rfl (lay_O hg rfl) (k_855 C.w) rfl ⟨by decide, by decide, by decide, by decide⟩ rfl rfl (Nat.le_of_ble_eq_true rfl) d_M_halt_36 rfl ?_
      intro μ23 h
      refine r_aload_n (pc := 39) C d_M_halt_39 rfl 1 rfl ?_
      refine r_cVv (pc := 40) (a' := 0) (b' := 0) (As := []) (ci := 6) C (c_M_countAnew C.s hg h) o_M_countAnew rfl (lay_O hg rfl) (k_863 C.w) rfl ⟨by decide, by decide, by decide, by decide⟩ rfl rfl (Nat.le_of_ble_eq_true rfl) d_M_halt_40 rfl ?_
      intro μ24 h
      refine r_aload_n (pc := 43) C d_M_halt_43 rfl 1 rfl ?_
      refine r_cVv (pc := 44) (a' := 0) (b' := 0) (As := []) (ci := 6) C (c_M_clearBlock C.s hg h) o_M_clearBlock rfl (lay_O hg rfl) (k_871 C.w) rfl ⟨by decide, by decide, by decide, by decide⟩ rfl rfl (Nat.le_of_ble_eq_true rfl) d_M_halt_44 rfl ?_
      intro μ25 h
      refine r_aload_n (pc := 47) C d_M_halt_47 rfl 1 rfl ?_
      refine r_iconst (pc := 48) C d_M_halt_48 (v := 0) (by decide) ?_
      refine r_putZ (pc := 49) (ci := 6) C rfl 27 (by decide) (k_677 C.w) rfl rfl p_Z (Or.inl rfl) (lay_O hg rfl) d_M_halt_49 ?_
      intro μ26 eμ26; replace h := h μ26 eμ26
      refine r_sub [1, 2, 0] rfl ?_
      exact J_52 a1 r4 μ26 h
