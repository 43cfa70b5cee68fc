/-! The machine meets the predicates (written by a program) -/
theorem c_M_isWhite {l : Launch} (hl : l.stackTraces = false) {G : Gl} (hg : gf G = true) {a1 : Int32} {post : Int32 → Mem → Prop} {μ : Mem} (h : wM_isWhite a1 post μ) : Ct l G i_M_isWhite [.inr (.inl (some 17)), .inl a1] μ (poI post) noX := by
  refine ct_of hl (by decide) (Nat.le_of_ble_eq_true rfl) ?_
  intro K hKl C Q hE
  clear hl hKl
  replace C : Cx K G prog_8_method_18_code "LineCollectorModel" 2 { frames := 0, cells := 0, slots := 0, locals := 0 } := C
  replace Q : Cq K G { frames := 0, cells := 0, slots := 0, locals := 0 } (some .boolean) (poI post) noX := Q
  show Rn K G 2 0 [(0, .inr (.inl (some 17))), (1, .inl a1)] [] μ 0 0
  unfold wM_isWhite at h
  refine r_iload_n (pc := 0) C d_M_isWhite_0 rfl 1 rfl ?_
  refine r_if_lt (tgt := 27) (pc := 1) C d_M_isWhite_1 (by decide) ?_ ?_
  · intro hc; replace h := h.1 hc
    refine r_iconst (pc := 27) C d_M_isWhite_27 (v := 0) (by decide) ?_
    exact r_zret (pc := 28) C Q (Or.inl rfl) d_M_isWhite_28 (by decide) (by decide) h
  · intro hc; replace h := h.2 hc
    refine r_aload_n (pc := 4) C d_M_isWhite_4 rfl 0 rfl ?_
    refine r_getR (pc := 5) (ci := 6) C rfl 2 (by decide) (k_652 C.w) rfl (lay_O hg rfl) d_M_isWhite_5 ?_
    refine r_iload_n (pc := 8) C d_M_isWhite_8 rfl 1 rfl ?_
    obtain ⟨b1, h⟩ := h
    refine r_iald (pc := 9) C (lay_A hg rfl) b1 d_M_isWhite_9 ?_
    refine r_iconst (pc := 10) C d_M_isWhite_10 (v := 2) (by decide) ?_
    refine r_icmp_ne (tgt := 27) (pc := 11) C d_M_isWhite_11 (by decide) ?_ ?_
    · intro hc; replace h := h.2 hc
      refine r_iconst (pc := 27) C d_M_isWhite_27 (v := 0) (by decide) ?_
      exact r_zret (pc := 28) C Q (Or.inl rfl) d_M_isWhite_28 (by decide) (by decide) h
    · intro hc; replace h := h.1 hc
      refine r_aload_n (pc := 14) C d_M_isWhite_14 rfl 0 rfl ?_
      refine r_getR (pc := 15) (ci := 6) C rfl 7 (by decide) (k_657 C.w) rfl (lay_O hg rfl) d_M_isWhite_15 ?_
      refine r_iload_n (pc := 18) C d_M_isWhite_18 rfl 1 rfl ?_
      refine r_iald (pc := 19) C (lay_A hg rfl) b1 d_M_isWhite_19 ?_
      refine r_if_ne (tgt := 27) (pc := 20) C d_M_isWhite_20 (by decide) ?_ ?_
      · intro hc; replace h := h.2 hc
        refine r_iconst (pc := 27) C d_M_isWhite_27 (v := 0) (by decide) ?_
        exact r_zret (pc := 28) C Q (Or.inl rfl) d_M_isWhite_28 (by decide) (by decide) h
      · intro hc; replace h := h.1 hc
        refine r_iconst (pc := 23) C d_M_isWhite_23 (v := 1) (by decide) ?_
        refine r_goto (tgt := 28) (pc := 24) C d_M_isWhite_24 (by decide) ?_
        exact r_zret (pc := 28) C Q (Or.inr rfl) d_M_isWhite_28 (by decide) (by decide) h
theorem c_M_greys {l : Launch} (hl : l.stackTraces = false) {G : Gl} (hg : gf G = true) {post : Int32 → Mem → Prop} {μ : Mem} (h : wM_greys post μ) : Ct l G i_M_greys [.inr (.inl (some 17))] μ (poI post) noX := by
  refine ct_of hl (by decide) (Nat.le_of_ble_eq_true rfl) ?_
  intro K hKl C Q hE
  clear hl hKl
  replace C : Cx K G prog_8_method_19_code "LineCollectorModel" 3 { frames := 0, cells := 0, slots := 0, locals := 0 } := C
  replace Q : Cq K G { frames := 0, cells := 0, slots := 0, locals := 0 } (some .int) (poI post) noX := Q
  show Rn K G 3 0 [(0, .inr (.inl (some 17)))] [] μ 0 0
  have L_4 : ∀ (k : Int32 → Int32 → Mem → Prop), (∀ (v1 : Int32) (v2 : Int32) (μ : Mem), k v1 v2 μ → Rn K G 3 45 [(1, .inl v1)] [] μ 0 0) → ∀ (n : Nat) (l1 : Int32) (l2 : Int32) (μ : Mem), wM_greys_4 k n l1 l2 μ → Rn K G 3 4 [(0, .inr (.inl (some 17))), (1, .inl l1), (2, .inl l2)] [] μ 0 0 := by
    intro k hk n
    induction n with
    | zero => intro l1 l2 μ h; exact h.elim
    | succ n ih =>
      intro l1 l2 μ h
      unfold wM_greys_4 at h
      refine r_iload_n (pc := 4) C d_M_greys_4 rfl 2 rfl ?_
      refine r_sipush (pc := 5) C d_M_greys_5 (v := 256) (by decide) ?_
      refine r_icmp_ge (tgt := 45) (pc := 8) C d_M_greys_8 (by decide) ?_ ?_
      · intro hc; replace h := h.1 hc
        refine r_sub [1] rfl ?_
        exact hk l1 l2 μ h
      · intro hc; replace h := h.2 hc
        refine r_aload_n (pc := 11) C d_M_greys_11 rfl 0 rfl ?_
        refine r_getR (pc := 12) (ci := 6) C rfl 2 (by decide) (k_652 C.w) rfl (lay_O hg rfl) d_M_greys_12 ?_
        refine r_iload_n (pc := 15) C d_M_greys_15 rfl 2 rfl ?_
        obtain ⟨b1, h⟩ := h
        refine r_iald (pc := 16) C (lay_A hg rfl) b1 d_M_greys_16 ?_
        refine r_iconst (pc := 17) C d_M_greys_17 (v := 2) (by decide) ?_
        refine r_icmp_ne (tgt := 37) (pc := 18) C d_M_greys_18 (by decide) ?_ ?_
        · intro hc; replace h := h.2 hc
          refine r_iload_n (pc := 37) C d_M_greys_37 rfl 1 rfl ?_
          refine r_istore_n (pc := 38) (lv' := [(0, .inr (.inl (some 17))), (2, .inl l2)]) C d_M_greys_38 rfl (by decide) rfl ?_
          refine r_iinc (pc := 39) (v := 1) (lv' := [(1, .inl l1), (0, .inr (.inl (some 17)))]) C d_M_greys_39 2 rfl (by decide) (by decide) rfl ?_
          refine r_goto (tgt := 4) (pc := 42) C d_M_greys_42 (by decide) ?_
          refine r_sub [2, 1, 0] rfl ?_
          exact ih l1 (l2 + 1) μ h
        · intro hc; replace h := h.1 hc
          refine r_aload_n (pc := 21) C d_M_greys_21 rfl 0 rfl ?_
          refine r_getR (pc := 22) (ci := 6) C rfl 7 (by decide) (k_657 C.w) rfl (lay_O hg rfl) d_M_greys_22 ?_
          refine r_iload_n (pc := 25) C d_M_greys_25 rfl 2 rfl ?_
          refine r_iald (pc := 26) C (lay_A hg rfl) b1 d_M_greys_26 ?_
          refine r_iconst (pc := 27) C d_M_greys_27 (v := 1) (by decide) ?_
          refine r_icmp_ne (tgt := 37) (pc := 28) C d_M_greys_28 (by decide) ?_ ?_
          · intro hc; replace h := h.2 hc
            refine r_iload_n (pc := 37) C d_M_greys_37 rfl 1 rfl ?_
            refine r_istore_n (pc := 38) (lv' := [(0, .inr (.inl (some 17))), (2, .inl l2)]) C d_M_greys_38 rfl (by decide) rfl ?_
            refine r_iinc (pc := 39) (v := 1) (lv' := [(1, .inl l1), (0, .inr (.inl (some 17)))]) C d_M_greys_39 2 rfl (by decide) (by decide) rfl ?_
            refine r_goto (tgt := 4) (pc := 42) C d_M_greys_42 (by decide) ?_
            refine r_sub [2, 1, 0] rfl ?_
            exact ih l1 (l2 + 1) μ h
          · intro hc; replace h := h.1 hc
            refine r_iload_n (pc := 31) C d_M_greys_31 rfl 1 rfl ?_
            refine r_iconst (pc := 32) C d_M_greys_32 (v := 1) (by decide) ?_
            refine r_iadd (pc := 33) C d_M_greys_33 ?_
            refine r_goto (tgt := 38) (pc := 34) C d_M_greys_34 (by decide) ?_
            refine r_istore_n (pc := 38) (lv' := [(0, .inr (.inl (some 17))), (2, .inl l2)]) C d_M_greys_38 rfl (by decide) rfl ?_
            refine r_iinc (pc := 39) (v := 1) (lv' := [(1, .inl (l1 + 1)), (0, .inr (.inl (some 17)))]) C d_M_greys_39 2 rfl (by decide) (by decide) rfl ?_
            refine r_goto (tgt := 4) (pc := 42) C d_M_greys_42 (by decide) ?_
            refine r_sub [2, 1, 0] rfl ?_
            exact ih (l1 + 1) (l2 + 1) μ h
  unfold wM_greys at h
  refine r_iconst (pc := 0) C d_M_greys_0 (v := 0) (by decide) ?_
  refine r_istore_n (pc := 1) (lv' := [(0, .inr (.inl (some 17)))]) C d_M_greys_1 rfl (by decide) rfl ?_
  refine r_iconst (pc := 2) C d_M_greys_2 (v := 0) (by decide) ?_
  refine r_istore_n (pc := 3) (lv' := [(1, .inl 0), (0, .inr (.inl (some 17)))]) C d_M_greys_3 rfl (by decide) rfl ?_
  obtain ⟨n5, h⟩ := h
  refine r_sub [2, 1, 0] rfl ?_
  refine L_4 _ ?_ n5 0 0 μ h
  intro v3 v4 μ2 h
  refine r_iload_n (pc := 45) C d_M_greys_45 rfl 0 rfl ?_
  exact r_iret (pc := 46) C Q d_M_greys_46 (by decide) (by decide) h
theorem c_M_wait {l : Launch} (hl : l.stackTraces = false) {G : Gl} (hg : gf G = true) {a1 : Int32} {post : Mem → Prop} {μ : Mem} (h : wM_wait a1 post μ) : Ct l G i_M_wait [.inr (.inl (some 17)), .inl a1] μ (poV post) noX := by
  refine ct_of hl (by decide) (Nat.le_of_ble_eq_true rfl) ?_
  intro K hKl C Q hE
  clear hl hKl
  replace C : Cx K G prog_8_method_20_code "LineCollectorModel" 2 { frames := 0, cells := 0, slots := 0, locals := 0 } := C
  replace Q : Cq K G { frames := 0, cells := 0, slots := 0, locals := 0 } (none) (poV post) noX := Q
  show Rn K G 2 0 [(0, .inr (.inl (some 17))), (1, .inl a1)] [] μ 0 0
  unfold wM_wait at h
  refine r_iload_n (pc := 0) C d_M_wait_0 rfl 1 rfl ?_
  refine r_if_lt (tgt := 24) (pc := 1) C d_M_wait_1 (by decide) ?_ ?_
  · intro hc; replace h := h.1 hc
    exact r_vret (pc := 24) C Q d_M_wait_24 (by decide) (by decide) h
  · intro hc; replace h := h.2 hc
    refine r_aload_n (pc := 4) C d_M_wait_4 rfl 0 rfl ?_
    refine r_getR (pc := 5) (ci := 6) C rfl 20 (by decide) (k_670 C.w) rfl (lay_O hg rfl) d_M_wait_5 ?_
    refine r_aload_n (pc := 8) C d_M_wait_8 rfl 0 rfl ?_
    refine r_getI (pc := 9) (ci := 6) C rfl 21 (by decide) (k_671 C.w) rfl (lay_O hg rfl) d_M_wait_9 ?_
    refine r_iload_n (pc := 12) C d_M_wait_12 rfl 1 rfl ?_
    obtain ⟨b1, h⟩ := h
    refine r_iast (pc := 13) C (lay_A hg rfl) b1 d_M_wait_13 ?_
    intro μ2 eμ2; replace h := h μ2 eμ2
    refine r_aload_n (pc := 14) C d_M_wait_14 rfl 0 rfl ?_
    refine r_dupR (pc := 15) C d_M_wait_15 ?_
    refine r_getI (pc := 16) (ci := 6) C rfl 21 (by decide) (k_671 C.w) rfl (lay_O hg rfl) d_M_wait_16 ?_
    refine r_iconst (pc := 19) C d_M_wait_19 (v := 1) (by decide) ?_
    refine r_iadd (pc := 20) C d_M_wait_20 ?_
    refine r_putI (pc := 21) (ci := 6) C rfl 21 (by decide) (k_671 C.w) rfl rfl p_I (lay_O hg rfl) d_M_wait_21 ?_
    intro μ3 eμ3; replace h := h μ3 eμ3
    exact r_vret (pc := 24) C Q d_M_wait_24 (by decide) (by decide) h
theorem c_M_vanish {l : Launch} (hl : l.stackTraces = false) {G : Gl} (hg : gf G = true) {a1 : Int32} {post : Mem → Prop} {μ : Mem} (h : wM_vanish a1 post μ) : Ct l G i_M_vanish [.inr (.inl (some 17)), .inl a1] μ (poV post) noX := by
  refine ct_of hl (by decide) (Nat.le_of_ble_eq_true rfl) ?_
  intro K hKl C Q hE
  clear hl hKl
  replace C : Cx K G prog_8_method_21_code "LineCollectorModel" 4 { frames := 2, cells := 0, slots := 0, locals := 44 } := C
  replace Q : Cq K G { frames := 2, cells := 0, slots := 0, locals := 44 } (none) (poV post) noX := Q
  show Rn K G 4 0 [(0, .inr (.inl (some 17))), (1, .inl a1)] [] μ 0 0
  have L_2 : ∀ (l1 : Int32) (k : Int32 → Mem → Prop), (∀ (v2 : Int32) (μ : Mem), k v2 μ → Rn K G 4 60 [(0, .inr (.inl (some 17))), (1, .inl l1)] [] μ 0 0) → ∀ (n : Nat) (l2 : Int32) (μ : Mem), wM_vanish_2 l1 k n l2 μ → Rn K G 4 2 [(0, .inr (.inl (some 17))), (1, .inl l1), (2, .inl l2)] [] μ 0 0 := by
    intro l1 k hk n
    induction n with
    | zero => intro l2 μ h; exact h.elim
    | succ n ih =>
      intro l2 μ h
      unfold wM_vanish_2 at h
      refine r_iload_n (pc := 2) C d_M_vanish_2 rfl 2 rfl ?_
      refine r_aload_n (pc := 3) C d_M_vanish_3 rfl 0 rfl ?_
      refine r_getR (pc := 4) (ci := 6) C rfl 4 (by decide) (k_654 C.w) rfl (lay_O hg rfl) d_M_vanish_4 ?_
      refine r_iload_n (pc := 7) C d_M_vanish_7 rfl 1 rfl ?_
      obtain ⟨b1, h⟩ := h
      refine r_iald (pc := 8) C (lay_A hg rfl) b1 d_M_vanish_8 ?_
      refine r_icmp_ge (tgt := 60) (pc := 9) C d_M_vanish_9 (by decide) ?_ ?_
      · intro hc; replace h := h.1 hc
        refine r_sub [0, 1] rfl ?_
        exact hk l2 μ h
      · intro hc; replace h := h.2 hc
        refine r_aload_n (pc := 12) C d_M_vanish_12 rfl 0 rfl ?_
        refine r_getR (pc := 13) (ci := 6) C rfl 8 (by decide) (k_658 C.w) rfl (lay_O hg rfl) d_M_vanish_13 ?_
        refine r_bipush (pc := 16) C d_M_vanish_16 (v := 12) (by decide) ?_
        refine r_iload_n (pc := 18) C d_M_vanish_18 rfl 1 rfl ?_
        refine r_imul (pc := 19) C d_M_vanish_19 ?_
        refine r_iload_n (pc := 20) C d_M_vanish_20 rfl 2 rfl ?_
        refine r_iadd (pc := 21) C d_M_vanish_21 ?_
        obtain ⟨b2, h⟩ := h
        refine r_iald (pc := 22) C (lay_A hg rfl) b2 d_M_vanish_22 ?_
        refine r_istore_n (pc := 23) (lv' := [(0, .inr (.inl (some 17))), (1, .inl l1), (2, .inl l2)]) C d_M_vanish_23 rfl (by decide) rfl ?_
        refine r_aload_n (pc := 24) C d_M_vanish_24 rfl 1 rfl ?_
        refine r_iload_n (pc := 25) C d_M_vanish_25 rfl 0 rfl ?_
        refine r_cVv (pc := 26) (a' := 0) (b' := 0) (As := [.inl (mI μ 25 ((12 * l1) + l2).toNatClampNeg)]) (ci := 6) C (c_M_wait C.s hg h) o_M_wait rfl (lay_O hg rfl) (k_803 C.w) rfl ⟨by decide, by decide, by decide, by decide⟩ rfl rfl (Nat.le_of_ble_eq_true rfl) d_M_vanish_26 rfl ?_
        intro μ3 h
        refine r_aload_n (pc := 29) C d_M_vanish_29 rfl 1 rfl ?_
        refine r_getR (pc := 30) (ci := 6) C rfl 7 (by decide) (k_657 C.w) rfl (lay_O hg rfl) d_M_vanish_30 ?_
        refine r_iload_n (pc := 33) C d_M_vanish_33 rfl 2 rfl ?_
        obtain ⟨b4, h⟩ := h
        refine r_iald (pc := 34) C (lay_A hg rfl) b4 d_M_vanish_34 ?_
        refine r_iconst (pc := 35) C d_M_vanish_35 (v := 1) (by decide) ?_
        refine r_icmp_ne (tgt := 54) (pc := 36) C d_M_vanish_36 (by decide) ?_ ?_
        · intro hc; replace h := h.2 hc
          refine r_iinc (pc := 54) (v := 1) (lv' := [(3, .inl (mI μ 25 ((12 * l1) + l2).toNatClampNeg)), (0, .inr (.inl (some 17))), (1, .inl l1)]) C d_M_vanish_54 3 rfl (by decide) (by decide) rfl ?_
          refine r_goto (tgt := 2) (pc := 57) C d_M_vanish_57 (by decide) ?_
          refine r_sub [2, 3, 0] rfl ?_
          exact ih (l2 + 1) μ3 h
        · intro hc; replace h := h.1 hc
          refine r_aload_n (pc := 39) C d_M_vanish_39 rfl 1 rfl ?_
          refine r_iload_n (pc := 40) C d_M_vanish_40 rfl 0 rfl ?_
          refine r_cVi (pc := 41) (a' := 0) (b' := 0) (As := [.inl (mI μ 25 ((12 * l1) + l2).toNatClampNeg)]) (ci := 6) C (c_M_isWhite C.s hg h) o_M_isWhite rfl (lay_O hg rfl) (k_807 C.w) rfl ⟨by decide, by decide, by decide, by decide⟩ rfl rfl (Nat.le_of_ble_eq_true rfl) d_M_vanish_41 rfl ?_
          intro r6 μ5 h
          refine r_if_eq (tgt := 54) (pc := 44) C d_M_vanish_44 (by decide) ?_ ?_
          · intro hc; replace h := h.1 hc
            refine r_iinc (pc := 54) (v := 1) (lv' := [(3, .inl (mI μ 25 ((12 * l1) + l2).toNatClampNeg)), (0, .inr (.inl (some 17))), (1, .inl l1)]) C d_M_vanish_54 3 rfl (by decide) (by decide) rfl ?_
            refine r_goto (tgt := 2) (pc := 57) C d_M_vanish_57 (by decide) ?_
            refine r_sub [2, 3, 0] rfl ?_
            exact ih (l2 + 1) μ5 h
          · intro hc; replace h := h.2 hc
            refine r_aload_n (pc := 47) C d_M_vanish_47 rfl 1 rfl ?_
            refine r_getR (pc := 48) (ci := 6) C rfl 7 (by decide) (k_657 C.w) rfl (lay_O hg rfl) d_M_vanish_48 ?_
            refine r_iload_n (pc := 51) C d_M_vanish_51 rfl 0 rfl ?_
            refine r_iconst (pc := 52) C d_M_vanish_52 (v := 1) (by decide) ?_
            obtain ⟨b7, h⟩ := h
            refine r_iast (pc := 53) C (lay_A hg rfl) b7 d_M_vanish_53 ?_
            intro μ8 eμ8; replace h := h μ8 eμ8
            refine r_iinc (pc := 54) (v := 1) (lv' := [(3, .inl (mI μ 25 ((12 * l1) + l2).toNatClampNeg)), (0, .inr (.inl (some 17))), (1, .inl l1)]) C d_M_vanish_54 3 rfl (by decide) (by decide) rfl ?_
            refine r_goto (tgt := 2) (pc := 57) C d_M_vanish_57 (by decide) ?_
            refine r_sub [2, 3, 0] rfl ?_
            exact ih (l2 + 1) μ8 h
  unfold wM_vanish at h
  refine r_iconst (pc := 0) C d_M_vanish_0 (v := 0) (by decide) ?_
  refine r_istore_n (pc := 1) (lv' := [(0, .inr (.inl (some 17))), (1, .inl a1)]) C d_M_vanish_1 rfl (by decide) rfl ?_
  obtain ⟨n12, h⟩ := h
  refine r_sub [1, 2, 0] rfl ?_
  refine L_2 a1 _ ?_ n12 0 μ h
  intro v10 μ9 h
  refine r_aload_n (pc := 60) C d_M_vanish_60 rfl 0 rfl ?_
  refine r_iload_n (pc := 61) C d_M_vanish_61 rfl 1 rfl ?_
  refine r_cVv (pc := 62) (a' := 0) (b' := 0) (As := [.inl a1]) (ci := 6) C (c_M_lose C.s hg h) o_M_lose rfl (lay_O hg rfl) (k_811 C.w) rfl ⟨by decide, by decide, by decide, by decide⟩ rfl rfl (Nat.le_of_ble_eq_true rfl) d_M_vanish_62 rfl ?_
  intro μ11 h
  exact r_vret (pc := 65) C Q d_M_vanish_65 (by decide) (by decide) h
theorem c_M_drainOne {l : Launch} (hl : l.stackTraces = false) {G : Gl} (hg : gf G = true) {post : Mem → Prop} {μ : Mem} (h : wM_drainOne post μ) : Ct l G i_M_drainOne [.inr (.inl (some 17))] μ (poV post) noX := by
  refine ct_of hl (by decide) (Nat.le_of_ble_eq_true rfl) ?_
  intro K hKl C Q hE
  clear hl hKl
  replace C : Cx K G prog_8_method_22_code "LineCollectorModel" 3 { frames := 3, cells := 0, slots := 0, locals := 67 } := C
  replace Q : Cq K G { frames := 3, cells := 0, slots := 0, locals := 67 } (none) (poV post) noX := Q
  show Rn K G 3 0 [(0, .inr (.inl (some 17)))] [] μ 0 0
  have L_19 : ∀ (l1 : Int32) (k : Int32 → Mem → Prop), (∀ (v2 : Int32) (μ : Mem), k v2 μ → Rn K G 3 47 [(0, .inr (.inl (some 17))), (1, .inl l1)] [] μ 0 0) → ∀ (n : Nat) (l2 : Int32) (μ : Mem), wM_drainOne_19 k n l2 μ → Rn K G 3 19 [(0, .inr (.inl (some 17))), (1, .inl l1), (2, .inl l2)] [] μ 0 0 := by
    intro l1 k hk n
    induction n with
    | zero => intro l2 μ h; exact h.elim
    | succ n ih =>
      intro l2 μ h
      unfold wM_drainOne_19 at h
      refine r_iload_n (pc := 19) C d_M_drainOne_19 rfl 2 rfl ?_
      refine r_aload_n (pc := 20) C d_M_drainOne_20 rfl 0 rfl ?_
      refine r_getI (pc := 21) (ci := 6) C rfl 21 (by decide) (k_671 C.w) rfl (lay_O hg rfl) d_M_drainOne_21 ?_
      refine r_icmp_ge (tgt := 47) (pc := 24) C d_M_drainOne_24 (by decide) ?_ ?_
      · intro hc; replace h := h.1 hc
        refine r_sub [0, 1] rfl ?_
        exact hk l2 μ h
      · intro hc; replace h := h.2 hc
        refine r_aload_n (pc := 27) C d_M_drainOne_27 rfl 0 rfl ?_
        refine r_getR (pc := 28) (ci := 6) C rfl 20 (by decide) (k_670 C.w) rfl (lay_O hg rfl) d_M_drainOne_28 ?_
        refine r_iload_n (pc := 31) C d_M_drainOne_31 rfl 2 rfl ?_
        refine r_aload_n (pc := 32) C d_M_drainOne_32 rfl 0 rfl ?_
        refine r_getR (pc := 33) (ci := 6) C rfl 20 (by decide) (k_670 C.w) rfl (lay_O hg rfl) d_M_drainOne_33 ?_
        refine r_iload_n (pc := 36) C d_M_drainOne_36 rfl 2 rfl ?_
        refine r_iconst (pc := 37) C d_M_drainOne_37 (v := 1) (by decide) ?_
        refine r_iadd (pc := 38) C d_M_drainOne_38 ?_
        obtain ⟨b3, h⟩ := h
        refine r_iald (pc := 39) C (lay_A hg rfl) b3 d_M_drainOne_39 ?_
        obtain ⟨b4, h⟩ := h
        refine r_iast (pc := 40) C (lay_A hg rfl) b4 d_M_drainOne_40 ?_
        intro μ5 eμ5; replace h := h μ5 eμ5
        refine r_iinc (pc := 41) (v := 1) (lv' := [(0, .inr (.inl (some 17))), (1, .inl l1)]) C d_M_drainOne_41 2 rfl (by decide) (by decide) rfl ?_
        refine r_goto (tgt := 19) (pc := 44) C d_M_drainOne_44 (by decide) ?_
        refine r_sub [1, 2, 0] rfl ?_
        exact ih (l2 + 1) μ5 h
  unfold wM_drainOne at h
  refine r_aload_n (pc := 0) C d_M_drainOne_0 rfl 0 rfl ?_
  refine r_getR (pc := 1) (ci := 6) C rfl 20 (by decide) (k_670 C.w) rfl (lay_O hg rfl) d_M_drainOne_1 ?_
  refine r_iconst (pc := 4) C d_M_drainOne_4 (v := 0) (by decide) ?_
  obtain ⟨b1, h⟩ := h
  refine r_iald (pc := 5) C (lay_A hg rfl) b1 d_M_drainOne_5 ?_
  refine r_istore_n (pc := 6) (lv' := [(0, .inr (.inl (some 17)))]) C d_M_drainOne_6 rfl (by decide) rfl ?_
  refine r_aload_n (pc := 7) C d_M_drainOne_7 rfl 1 rfl ?_
  refine r_dupR (pc := 8) C d_M_drainOne_8 ?_
  refine r_getI (pc := 9) (ci := 6) C rfl 21 (by decide) (k_671 C.w) rfl (lay_O hg rfl) d_M_drainOne_9 ?_
  refine r_iconst (pc := 12) C d_M_drainOne_12 (v := 1) (by decide) ?_
  refine r_isub (pc := 13) C d_M_drainOne_13 ?_
  refine r_putI (pc := 14) (ci := 6) C rfl 21 (by decide) (k_671 C.w) rfl rfl p_I (lay_O hg rfl) d_M_drainOne_14 ?_
  intro μ2 eμ2; replace h := h μ2 eμ2
  refine r_iconst (pc := 17) C d_M_drainOne_17 (v := 0) (by decide) ?_
  refine r_istore_n (pc := 18) (lv' := [(1, .inl (mI μ 30 (0 : Int32).toNatClampNeg)), (0, .inr (.inl (some 17)))]) C d_M_drainOne_18 rfl (by decide) rfl ?_
  obtain ⟨n11, h⟩ := h
  refine r_sub [2, 1, 0] rfl ?_
  refine L_19 (mI μ 30 (0 : Int32).toNatClampNeg) _ ?_ n11 0 μ2 h
  intro v7 μ6 h
  refine r_aload_n (pc := 47) C d_M_drainOne_47 rfl 0 rfl ?_
  refine r_getR (pc := 48) (ci := 6) C rfl 2 (by decide) (k_652 C.w) rfl (lay_O hg rfl) d_M_drainOne_48 ?_
  refine r_iload_n (pc := 51) C d_M_drainOne_51 rfl 1 rfl ?_
  obtain ⟨b8, h⟩ := h
  refine r_iald (pc := 52) C (lay_A hg rfl) b8 d_M_drainOne_52 ?_
  refine r_iconst (pc := 53) C d_M_drainOne_53 (v := 2) (by decide) ?_
  refine r_icmp_ne (tgt := 91) (pc := 54) C d_M_drainOne_54 (by decide) ?_ ?_
  · intro hc; replace h := h.2 hc
    exact r_vret (pc := 91) C Q d_M_drainOne_91 (by decide) (by decide) h
  · intro hc; replace h := h.1 hc
    refine r_aload_n (pc := 57) C d_M_drainOne_57 rfl 0 rfl ?_
    refine r_getR (pc := 58) (ci := 6) C rfl 6 (by decide) (k_656 C.w) rfl (lay_O hg rfl) d_M_drainOne_58 ?_
    refine r_iload_n (pc := 61) C d_M_drainOne_61 rfl 1 rfl ?_
    refine r_iald (pc := 62) C (lay_A hg rfl) b8 d_M_drainOne_62 ?_
    refine r_iconst (pc := 63) C d_M_drainOne_63 (v := 3) (by decide) ?_
    refine r_icmp_ge (tgt := 91) (pc := 64) C d_M_drainOne_64 (by decide) ?_ ?_
    · intro hc; replace h := h.1 hc
      exact r_vret (pc := 91) C Q d_M_drainOne_91 (by decide) (by decide) h
    · intro hc; replace h := h.2 hc
      refine r_aload_n (pc := 67) C d_M_drainOne_67 rfl 0 rfl ?_
      refine r_getR (pc := 68) (ci := 6) C rfl 6 (by decide) (k_656 C.w) rfl (lay_O hg rfl) d_M_drainOne_68 ?_
      refine r_iload_n (pc := 71) C d_M_drainOne_71 rfl 1 rfl ?_
      refine r_dup2 (pc := 72) C d_M_drainOne_72 ?_
      refine r_iald (pc := 73) C (lay_A hg rfl) b8 d_M_drainOne_73 ?_
      refine r_iconst (pc := 74) C d_M_drainOne_74 (v := 1) (by decide) ?_
      refine r_isub (pc := 75) C d_M_drainOne_75 ?_
      refine r_iast (pc := 76) C (lay_A hg rfl) b8 d_M_drainOne_76 ?_
      intro μ9 eμ9; replace h := h μ9 eμ9
      refine r_aload_n (pc := 77) C d_M_drainOne_77 rfl 0 rfl ?_
      refine r_getR (pc := 78) (ci := 6) C rfl 6 (by decide) (k_656 C.w) rfl (lay_O hg rfl) d_M_drainOne_78 ?_
      refine r_iload_n (pc := 81) C d_M_drainOne_81 rfl 1 rfl ?_
      refine r_iald (pc := 82) C (lay_A hg rfl) b8 d_M_drainOne_82 ?_
      refine r_if_ne (tgt := 91) (pc := 83) C d_M_drainOne_83 (by decide) ?_ ?_
      · intro hc; replace h := h.2 hc
        exact r_vret (pc := 91) C Q d_M_drainOne_91 (by decide) (by decide) h
      · intro hc; replace h := h.1 hc
        refine r_aload_n (pc := 86) C d_M_drainOne_86 rfl 0 rfl ?_
        refine r_iload_n (pc := 87) C d_M_drainOne_87 rfl 1 rfl ?_
        refine r_cVv (pc := 88) (a' := 0) (b' := 0) (As := [.inl (mI μ 30 (0 : Int32).toNatClampNeg)]) (ci := 6) C (c_M_vanish C.s hg h) o_M_vanish rfl (lay_O hg rfl) (k_799 C.w) rfl ⟨by decide, by decide, by decide, by decide⟩ rfl rfl (Nat.le_of_ble_eq_true rfl) d_M_drainOne_88 rfl ?_
        intro μ10 h
        exact r_vret (pc := 91) C Q d_M_drainOne_91 (by decide) (by decide) h
theorem c_M_drainAll {l : Launch} (hl : l.stackTraces = false) {G : Gl} (hg : gf G = true) {post : Mem → Prop} {μ : Mem} (h : wM_drainAll post μ) : Ct l G i_M_drainAll [.inr (.inl (some 17))] μ (poV post) noX := by
  refine ct_of hl (by decide) (Nat.le_of_ble_eq_true rfl) ?_
  intro K hKl C Q hE
  clear hl hKl
  replace C : Cx K G prog_8_method_23_code "LineCollectorModel" 1 { frames := 4, cells := 0, slots := 0, locals := 89 } := C
  replace Q : Cq K G { frames := 4, cells := 0, slots := 0, locals := 89 } (none) (poV post) noX := Q
  show Rn K G 1 0 [(0, .inr (.inl (some 17)))] [] μ 0 0
  have L_0 : ∀ (k : Mem → Prop), (∀ (μ : Mem), k μ → Rn K G 1 14 [] [] μ 0 0) → ∀ (n : Nat) (μ : Mem), wM_drainAll_0 k n μ → Rn K G 1 0 [(0, .inr (.inl (some 17)))] [] μ 0 0 := by
    intro k hk n
    induction n with
    | zero => intro μ h; exact h.elim
    | succ n ih =>
      intro μ h
      unfold wM_drainAll_0 at h
      refine r_aload_n (pc := 0) C d_M_drainAll_0 rfl 0 rfl ?_
      refine r_getI (pc := 1) (ci := 6) C rfl 21 (by decide) (k_671 C.w) rfl (lay_O hg rfl) d_M_drainAll_1 ?_
      refine r_if_le (tgt := 14) (pc := 4) C d_M_drainAll_4 (by decide) ?_ ?_
      · intro hc; replace h := h.1 hc
        refine r_sub [] rfl ?_
        exact hk μ h
      · intro hc; replace h := h.2 hc
        refine r_aload_n (pc := 7) C d_M_drainAll_7 rfl 0 rfl ?_
        refine r_cVv (pc := 8) (a' := 0) (b' := 0) (As := []) (ci := 6) C (c_M_drainOne C.s hg h) o_M_drainOne rfl (lay_O hg rfl) (k_795 C.w) rfl ⟨by decide, by decide, by decide, by decide⟩ rfl rfl (Nat.le_of_ble_eq_true rfl) d_M_drainAll_8 rfl ?_
        intro μ1 h
        refine r_goto (tgt := 0) (pc := 11) C d_M_drainAll_11 (by decide) ?_
        exact ih μ1 h
  unfold wM_drainAll at h
  obtain ⟨n3, h⟩ := h
  refine L_0 _ ?_ n3 μ h
  intro μ2 h
  exact r_vret (pc := 14) C Q d_M_drainAll_14 (by decide) (by decide) h
theorem c_M_step {l : Launch} (hl : l.stackTraces = false) {G : Gl} (hg : gf G = true) {post : Mem → Prop} {μ : Mem} (h : wM_step post μ) : Ct l G i_M_step [.inr (.inl (some 17))] μ (poV post) noX := by
  refine ct_of hl (by decide) (Nat.le_of_ble_eq_true rfl) ?_
  intro K hKl C Q hE
  clear hl hKl
  replace C : Cx K G prog_8_method_24_code "LineCollectorModel" 5 { frames := 1, cells := 0, slots := 0, locals := 21 } := C
  replace Q : Cq K G { frames := 1, cells := 0, slots := 0, locals := 21 } (none) (poV post) noX := Q
  show Rn K G 5 0 [(0, .inr (.inl (some 17)))] [] μ 0 0
  have L_2 : ∀ (k : Int32 → Mem → Prop), (∀ (v1 : Int32) (μ : Mem), k v1 μ → Rn K G 5 44 [(0, .inr (.inl (some 17))), (1, .inl v1)] [] μ 0 0) → ∀ (n : Nat) (l1 : Int32) (μ : Mem), wM_step_2 k n l1 μ → Rn K G 5 2 [(0, .inr (.inl (some 17))), (1, .inl l1)] [] μ 0 0 := by
    intro k hk n
    induction n with
    | zero => intro l1 μ h; exact h.elim
    | succ n ih =>
      intro l1 μ h
      unfold wM_step_2 at h
      refine r_aload_n (pc := 2) C d_M_step_2 rfl 0 rfl ?_
      refine r_iload_n (pc := 3) C d_M_step_3 rfl 1 rfl ?_
      refine r_cVi (pc := 4) (a' := 0) (b' := 0) (As := [.inl l1]) (ci := 6) C (c_M_objectAt C.s hg h) o_M_objectAt rfl (lay_O hg rfl) (k_859 C.w) rfl ⟨by decide, by decide, by decide, by decide⟩ rfl rfl (Nat.le_of_ble_eq_true rfl) d_M_step_4 rfl ?_
      intro r2 μ1 h
      refine r_if_lt (tgt := 38) (pc := 7) C d_M_step_7 (by decide) ?_ ?_
      · intro hc; replace h := h.1 hc
        refine r_iinc (pc := 38) (v := 1) (lv' := [(0, .inr (.inl (some 17)))]) C d_M_step_38 1 rfl (by decide) (by decide) rfl ?_
        refine r_goto (tgt := 2) (pc := 41) C d_M_step_41 (by decide) ?_
        refine r_sub [1, 0] rfl ?_
        exact ih (l1 + 1) μ1 h
      · intro hc; replace h := h.2 hc
        refine r_aload_n (pc := 10) C d_M_step_10 rfl 0 rfl ?_
        refine r_getR (pc := 11) (ci := 6) C rfl 2 (by decide) (k_652 C.w) rfl (lay_O hg rfl) d_M_step_11 ?_
        refine r_aload_n (pc := 14) C d_M_step_14 rfl 0 rfl ?_
        refine r_iload_n (pc := 15) C d_M_step_15 rfl 1 rfl ?_
        refine r_cVi (pc := 16) (a' := 0) (b' := 0) (As := [.inl l1]) (ci := 6) C (c_M_objectAt C.s hg h) o_M_objectAt rfl (lay_O hg rfl) (k_859 C.w) rfl ⟨by decide, by decide, by decide, by decide⟩ rfl rfl (Nat.le_of_ble_eq_true rfl) d_M_step_16 rfl ?_
        intro r4 μ3 h
        obtain ⟨b5, h⟩ := h
        refine r_iald (pc := 19) C (lay_A hg rfl) b5 d_M_step_19 ?_
        refine r_iconst (pc := 20) C d_M_step_20 (v := 2) (by decide) ?_
        refine r_icmp_ne (tgt := 38) (pc := 21) C d_M_step_21 (by decide) ?_ ?_
        · intro hc; replace h := h.2 hc
          refine r_iinc (pc := 38) (v := 1) (lv' := [(0, .inr (.inl (some 17)))]) C d_M_step_38 1 rfl (by decide) (by decide) rfl ?_
          refine r_goto (tgt := 2) (pc := 41) C d_M_step_41 (by decide) ?_
          refine r_sub [1, 0] rfl ?_
          exact ih (l1 + 1) μ3 h
        · intro hc; replace h := h.1 hc
          refine r_aload_n (pc := 24) C d_M_step_24 rfl 0 rfl ?_
          refine r_getR (pc := 25) (ci := 6) C rfl 7 (by decide) (k_657 C.w) rfl (lay_O hg rfl) d_M_step_25 ?_
          refine r_aload_n (pc := 28) C d_M_step_28 rfl 0 rfl ?_
          refine r_iload_n (pc := 29) C d_M_step_29 rfl 1 rfl ?_
          refine r_cVi (pc := 30) (a' := 0) (b' := 0) (As := [.inl l1]) (ci := 6) C (c_M_objectAt C.s hg h) o_M_objectAt rfl (lay_O hg rfl) (k_859 C.w) rfl ⟨by decide, by decide, by decide, by decide⟩ rfl rfl (Nat.le_of_ble_eq_true rfl) d_M_step_30 rfl ?_
          intro r7 μ6 h
          obtain ⟨b8, h⟩ := h
          refine r_iald (pc := 33) C (lay_A hg rfl) b8 d_M_step_33 ?_
          refine r_iconst (pc := 34) C d_M_step_34 (v := 1) (by decide) ?_
          refine r_icmp_eq (tgt := 44) (pc := 35) C d_M_step_35 (by decide) ?_ ?_
          · intro hc; replace h := h.1 hc
            exact hk l1 μ6 h
          · intro hc; replace h := h.2 hc
            refine r_iinc (pc := 38) (v := 1) (lv' := [(0, .inr (.inl (some 17)))]) C d_M_step_38 1 rfl (by decide) (by decide) rfl ?_
            refine r_goto (tgt := 2) (pc := 41) C d_M_step_41 (by decide) ?_
            refine r_sub [1, 0] rfl ?_
            exact ih (l1 + 1) μ6 h
  have L_59 : ∀ (l2 : Int32) (k : Int32 → Mem → Prop), (∀ (v3 : Int32) (μ : Mem), k v3 μ → Rn K G 5 105 [] [] μ 0 0) → ∀ (n : Nat) (l3 : Int32) (μ : Mem), wM_step_59 l2 k n l3 μ → Rn K G 5 59 [(0, .inr (.inl (some 17))), (2, .inl l2), (3, .inl l3)] [] μ 0 0 := by
    intro l2 k hk n
    induction n with
    | zero => intro l3 μ h; exact h.elim
    | succ n ih =>
      intro l3 μ h
      unfold wM_step_59 at h
      refine r_iload_n (pc := 59) C d_M_step_59 rfl 2 rfl ?_
      refine r_aload_n (pc := 60) C d_M_step_60 rfl 0 rfl ?_
      refine r_getR (pc := 61) (ci := 6) C rfl 4 (by decide) (k_654 C.w) rfl (lay_O hg rfl) d_M_step_61 ?_
      refine r_iload_n (pc := 64) C d_M_step_64 rfl 1 rfl ?_
      obtain ⟨b15, h⟩ := h
      refine r_iald (pc := 65) C (lay_A hg rfl) b15 d_M_step_65 ?_
      refine r_icmp_ge (tgt := 105) (pc := 66) C d_M_step_66 (by decide) ?_ ?_
      · intro hc; replace h := h.1 hc
        refine r_sub [] rfl ?_
        exact hk l3 μ h
      · intro hc; replace h := h.2 hc
        refine r_aload_n (pc := 69) C d_M_step_69 rfl 0 rfl ?_
        refine r_getR (pc := 70) (ci := 6) C rfl 8 (by decide) (k_658 C.w) rfl (lay_O hg rfl) d_M_step_70 ?_
        refine r_bipush (pc := 73) C d_M_step_73 (v := 12) (by decide) ?_
        refine r_iload_n (pc := 75) C d_M_step_75 rfl 1 rfl ?_
        refine r_imul (pc := 76) C d_M_step_76 ?_
        refine r_iload_n (pc := 77) C d_M_step_77 rfl 2 rfl ?_
        refine r_iadd (pc := 78) C d_M_step_78 ?_
        obtain ⟨b16, h⟩ := h
        refine r_iald (pc := 79) C (lay_A hg rfl) b16 d_M_step_79 ?_
        refine r_istore (pc := 80) (lv' := [(0, .inr (.inl (some 17))), (2, .inl l2), (3, .inl l3)]) C d_M_step_80 (by decide) rfl ?_
        refine r_aload_n (pc := 82) C d_M_step_82 rfl 1 rfl ?_
        refine r_iload (pc := 83) C d_M_step_83 0 rfl ?_
        refine r_cVi (pc := 85) (a' := 0) (b' := 0) (As := [.inl (mI μ 25 ((12 * l2) + l3).toNatClampNeg)]) (ci := 6) C (c_M_isWhite C.s hg h) o_M_isWhite rfl (lay_O hg rfl) (k_807 C.w) rfl ⟨by decide, by decide, by decide, by decide⟩ rfl rfl (Nat.le_of_ble_eq_true rfl) d_M_step_85 rfl ?_
        intro r18 μ17 h
        refine r_if_eq (tgt := 99) (pc := 88) C d_M_step_88 (by decide) ?_ ?_
        · intro hc; replace h := h.1 hc
          refine r_iinc (pc := 99) (v := 1) (lv' := [(4, .inl (mI μ 25 ((12 * l2) + l3).toNatClampNeg)), (0, .inr (.inl (some 17))), (2, .inl l2)]) C d_M_step_99 3 rfl (by decide) (by decide) rfl ?_
          refine r_goto (tgt := 59) (pc := 102) C d_M_step_102 (by decide) ?_
          refine r_sub [2, 3, 0] rfl ?_
          exact ih (l3 + 1) μ17 h
        · intro hc; replace h := h.2 hc
          refine r_aload_n (pc := 91) C d_M_step_91 rfl 1 rfl ?_
          refine r_getR (pc := 92) (ci := 6) C rfl 7 (by decide) (k_657 C.w) rfl (lay_O hg rfl) d_M_step_92 ?_
          refine r_iload (pc := 95) C d_M_step_95 0 rfl ?_
          refine r_iconst (pc := 97) C d_M_step_97 (v := 1) (by decide) ?_
          obtain ⟨b19, h⟩ := h
          refine r_iast (pc := 98) C (lay_A hg rfl) b19 d_M_step_98 ?_
          intro μ20 eμ20; replace h := h μ20 eμ20
          refine r_iinc (pc := 99) (v := 1) (lv' := [(4, .inl (mI μ 25 ((12 * l2) + l3).toNatClampNeg)), (0, .inr (.inl (some 17))), (2, .inl l2)]) C d_M_step_99 3 rfl (by decide) (by decide) rfl ?_
          refine r_goto (tgt := 59) (pc := 102) C d_M_step_102 (by decide) ?_
          refine r_sub [2, 3, 0] rfl ?_
          exact ih (l3 + 1) μ20 h
  unfold wM_step at h
  refine r_iconst (pc := 0) C d_M_step_0 (v := 0) (by decide) ?_
  refine r_istore_n (pc := 1) (lv' := [(0, .inr (.inl (some 17)))]) C d_M_step_1 rfl (by decide) rfl ?_
  obtain ⟨n24, h⟩ := h
  refine r_sub [1, 0] rfl ?_
  refine L_2 _ ?_ n24 0 μ h
  intro v10 μ9 h
  refine r_aload_n (pc := 44) C d_M_step_44 rfl 0 rfl ?_
  refine r_iload_n (pc := 45) C d_M_step_45 rfl 1 rfl ?_
  refine r_cVi (pc := 46) (a' := 0) (b' := 0) (As := [.inl v10]) (ci := 6) C (c_M_objectAt C.s hg h) o_M_objectAt rfl (lay_O hg rfl) (k_859 C.w) rfl ⟨by decide, by decide, by decide, by decide⟩ rfl rfl (Nat.le_of_ble_eq_true rfl) d_M_step_46 rfl ?_
  intro r12 μ11 h
  refine r_istore_n (pc := 49) (lv' := [(0, .inr (.inl (some 17))), (1, .inl v10)]) C d_M_step_49 rfl (by decide) rfl ?_
  refine r_aload_n (pc := 50) C d_M_step_50 rfl 1 rfl ?_
  refine r_getR (pc := 51) (ci := 6) C rfl 7 (by decide) (k_657 C.w) rfl (lay_O hg rfl) d_M_step_51 ?_
  refine r_iload_n (pc := 54) C d_M_step_54 rfl 0 rfl ?_
  refine r_iconst (pc := 55) C d_M_step_55 (v := 2) (by decide) ?_
  obtain ⟨b13, h⟩ := h
  refine r_iast (pc := 56) C (lay_A hg rfl) b13 d_M_step_56 ?_
  intro μ14 eμ14; replace h := h μ14 eμ14
  refine r_iconst (pc := 57) C d_M_step_57 (v := 0) (by decide) ?_
  refine r_istore_n (pc := 58) (lv' := [(2, .inl r12), (0, .inr (.inl (some 17))), (1, .inl v10)]) C d_M_step_58 rfl (by decide) rfl ?_
  obtain ⟨n23, h⟩ := h
  refine r_sub [2, 1, 0] rfl ?_
  refine L_59 r12 _ ?_ n23 0 μ14 h
  intro v22 μ21 h
  exact r_vret (pc := 105) C Q d_M_step_105 (by decide) (by decide) h
theorem c_M_addSlot {l : Launch} (hl : l.stackTraces = false) {G : Gl} (hg : gf G = true) {a1 : Int32} {post : Mem → Prop} {μ : Mem} (h : wM_addSlot a1 post μ) : Ct l G i_M_addSlot [.inr (.inl (some 17)), .inl a1] μ (poV post) noX := by
  refine ct_of hl (by decide) (Nat.le_of_ble_eq_true rfl) ?_
  intro K hKl C Q hE
  clear hl hKl
  replace C : Cx K G prog_8_method_25_code "LineCollectorModel" 2 { frames := 0, cells := 0, slots := 0, locals := 0 } := C
  replace Q : Cq K G { frames := 0, cells := 0, slots := 0, locals := 0 } (none) (poV post) noX := Q
  show Rn K G 2 0 [(0, .inr (.inl (some 17))), (1, .inl a1)] [] μ 0 0
  unfold wM_addSlot at h
  refine r_aload_n (pc := 0) C d_M_addSlot_0 rfl 0 rfl ?_
  refine r_getR (pc := 1) (ci := 6) C rfl 25 (by decide) (k_675 C.w) rfl (lay_O hg rfl) d_M_addSlot_1 ?_
  refine r_aload_n (pc := 4) C d_M_addSlot_4 rfl 0 rfl ?_
  refine r_getI (pc := 5) (ci := 6) C rfl 26 (by decide) (k_676 C.w) rfl (lay_O hg rfl) d_M_addSlot_5 ?_
  refine r_iload_n (pc := 8) C d_M_addSlot_8 rfl 1 rfl ?_
  obtain ⟨b1, h⟩ := h
  refine r_iast (pc := 9) C (lay_A hg rfl) b1 d_M_addSlot_9 ?_
  intro μ2 eμ2; replace h := h μ2 eμ2
  refine r_aload_n (pc := 10) C d_M_addSlot_10 rfl 0 rfl ?_
  refine r_dupR (pc := 11) C d_M_addSlot_11 ?_
  refine r_getI (pc := 12) (ci := 6) C rfl 26 (by decide) (k_676 C.w) rfl (lay_O hg rfl) d_M_addSlot_12 ?_
  refine r_iconst (pc := 15) C d_M_addSlot_15 (v := 1) (by decide) ?_
  refine r_iadd (pc := 16) C d_M_addSlot_16 ?_
  refine r_putI (pc := 17) (ci := 6) C rfl 26 (by decide) (k_676 C.w) rfl rfl p_I (lay_O hg rfl) d_M_addSlot_17 ?_
  intro μ3 eμ3; replace h := h μ3 eμ3
  exact r_vret (pc := 20) C Q d_M_addSlot_20 (by decide) (by decide) h
theorem c_M_survive {l : Launch} (hl : l.stackTraces = false) {G : Gl} (hg : gf G = true) {a1 : Int32} {post : Mem → Prop} {μ : Mem} (h : wM_survive a1 post μ) : Ct l G i_M_survive [.inr (.inl (some 17)), .inl a1] μ (poV post) noX := by
  refine ct_of hl (by decide) (Nat.le_of_ble_eq_true rfl) ?_
  intro K hKl C Q hE
  clear hl hKl
  replace C : Cx K G prog_8_method_26_code "LineCollectorModel" 3 { frames := 6, cells := 0, slots := 0, locals := 132 } := C
  replace Q : Cq K G { frames := 6, cells := 0, slots := 0, locals := 132 } (none) (poV post) noX := Q
  show Rn K G 3 0 [(0, .inr (.inl (some 17))), (1, .inl a1)] [] μ 0 0
  have L_39 : ∀ (l1 : Int32) (k : Int32 → Mem → Prop), (∀ (v2 : Int32) (μ : Mem), k v2 μ → Rn K G 3 68 [] [] μ 0 0) → ∀ (n : Nat) (l2 : Int32) (μ : Mem), wM_survive_39 l1 k n l2 μ → Rn K G 3 39 [(0, .inr (.inl (some 17))), (1, .inl l1), (2, .inl l2)] [] μ 0 0 := by
    intro l1 k hk n
    induction n with
    | zero => intro l2 μ h; exact h.elim
    | succ n ih =>
      intro l2 μ h
      unfold wM_survive_39 at h
      refine r_iload_n (pc := 39) C d_M_survive_39 rfl 2 rfl ?_
      refine r_aload_n (pc := 40) C d_M_survive_40 rfl 0 rfl ?_
      refine r_getR (pc := 41) (ci := 6) C rfl 4 (by decide) (k_654 C.w) rfl (lay_O hg rfl) d_M_survive_41 ?_
      refine r_iload_n (pc := 44) C d_M_survive_44 rfl 1 rfl ?_
      obtain ⟨b7, h⟩ := h
      refine r_iald (pc := 45) C (lay_A hg rfl) b7 d_M_survive_45 ?_
      refine r_icmp_ge (tgt := 68) (pc := 46) C d_M_survive_46 (by decide) ?_ ?_
      · intro hc; replace h := h.1 hc
        refine r_sub [] rfl ?_
        exact hk l2 μ h
      · intro hc; replace h := h.2 hc
        refine r_aload_n (pc := 49) C d_M_survive_49 rfl 0 rfl ?_
        refine r_bipush (pc := 50) C d_M_survive_50 (v := 6) (by decide) ?_
        refine r_bipush (pc := 52) C d_M_survive_52 (v := 12) (by decide) ?_
        refine r_iload_n (pc := 54) C d_M_survive_54 rfl 1 rfl ?_
        refine r_imul (pc := 55) C d_M_survive_55 ?_
        refine r_iadd (pc := 56) C d_M_survive_56 ?_
        refine r_iload_n (pc := 57) C d_M_survive_57 rfl 2 rfl ?_
        refine r_iadd (pc := 58) C d_M_survive_58 ?_
        refine r_cVv (pc := 59) (a' := 0) (b' := 0) (As := [.inl ((6 + (12 * l1)) + l2)]) (ci := 6) C (c_M_addSlot C.s hg h) o_M_addSlot rfl (lay_O hg rfl) (k_827 C.w) rfl ⟨by decide, by decide, by decide, by decide⟩ rfl rfl (Nat.le_of_ble_eq_true rfl) d_M_survive_59 rfl ?_
        intro μ8 h
        refine r_iinc (pc := 62) (v := 1) (lv' := [(0, .inr (.inl (some 17))), (1, .inl l1)]) C d_M_survive_62 2 rfl (by decide) (by decide) rfl ?_
        refine r_goto (tgt := 39) (pc := 65) C d_M_survive_65 (by decide) ?_
        refine r_sub [1, 2, 0] rfl ?_
        exact ih (l2 + 1) μ8 h
  have J_31 : ∀ (l1 : Int32) (t1 : Int32) (t2 : Int32) (μ : Mem), wM_survive_31 l1 t1 t2 post μ → Rn K G 3 31 [(0, .inr (.inl (some 17))), (1, .inl l1)] [.int t2, .int t1, rv G (some 24)] μ 0 0 := by
    intro l1 t1 t2 μ h
    unfold wM_survive_31 at h
    obtain ⟨b4, h⟩ := h
    refine r_iast (pc := 31) C (lay_A hg rfl) b4 d_M_survive_31 ?_
    intro μ5 eμ5; replace h := h μ5 eμ5
    refine r_aload_n (pc := 32) C d_M_survive_32 rfl 0 rfl ?_
    refine r_iload_n (pc := 33) C d_M_survive_33 rfl 1 rfl ?_
    refine r_cVv (pc := 34) (a' := 0) (b' := 0) (As := [.inl l1]) (ci := 6) C (c_M_shift C.s hg h) o_M_shift rfl (lay_O hg rfl) (k_835 C.w) rfl ⟨by decide, by decide, by decide, by decide⟩ rfl rfl (Nat.le_of_ble_eq_true rfl) d_M_survive_34 rfl ?_
    intro μ6 h
    refine r_iconst (pc := 37) C d_M_survive_37 (v := 0) (by decide) ?_
    refine r_istore_n (pc := 38) (lv' := [(0, .inr (.inl (some 17))), (1, .inl l1)]) C d_M_survive_38 rfl (by decide) rfl ?_
    obtain ⟨n11, h⟩ := h
    refine r_sub [1, 2, 0] rfl ?_
    refine L_39 l1 _ ?_ n11 0 μ6 h
    intro v10 μ9 h
    exact r_vret (pc := 68) C Q d_M_survive_68 (by decide) (by decide) h
  unfold wM_survive at h
  refine r_aload_n (pc := 0) C d_M_survive_0 rfl 0 rfl ?_
  refine r_getR (pc := 1) (ci := 6) C rfl 2 (by decide) (k_652 C.w) rfl (lay_O hg rfl) d_M_survive_1 ?_
  refine r_iload_n (pc := 4) C d_M_survive_4 rfl 1 rfl ?_
  refine r_iconst (pc := 5) C d_M_survive_5 (v := 2) (by decide) ?_
  obtain ⟨b1, h⟩ := h
  refine r_iast (pc := 6) C (lay_A hg rfl) b1 d_M_survive_6 ?_
  intro μ2 eμ2; replace h := h μ2 eμ2
  refine r_aload_n (pc := 7) C d_M_survive_7 rfl 0 rfl ?_
  refine r_getR (pc := 8) (ci := 6) C rfl 6 (by decide) (k_656 C.w) rfl (lay_O hg rfl) d_M_survive_8 ?_
  refine r_iload_n (pc := 11) C d_M_survive_11 rfl 1 rfl ?_
  refine r_iconst (pc := 12) C d_M_survive_12 (v := 1) (by decide) ?_
  refine r_iast (pc := 13) C (lay_A hg rfl) b1 d_M_survive_13 ?_
  intro μ3 eμ3; replace h := h μ3 eμ3
  refine r_aload_n (pc := 14) C d_M_survive_14 rfl 0 rfl ?_
  refine r_getR (pc := 15) (ci := 6) C rfl 7 (by decide) (k_657 C.w) rfl (lay_O hg rfl) d_M_survive_15 ?_
  refine r_iload_n (pc := 18) C d_M_survive_18 rfl 1 rfl ?_
  refine r_aload_n (pc := 19) C d_M_survive_19 rfl 0 rfl ?_
  refine r_getI (pc := 20) (ci := 6) C rfl 27 (by decide) (k_677 C.w) rfl (lay_O hg rfl) d_M_survive_20 ?_
  refine r_if_eq (tgt := 30) (pc := 23) C d_M_survive_23 (by decide) ?_ ?_
  · intro hc; replace h := h.1 hc
    refine r_iconst (pc := 30) C d_M_survive_30 (v := 0) (by decide) ?_
    exact J_31 a1 a1 0 μ3 h
  · intro hc; replace h := h.2 hc
    refine r_iconst (pc := 26) C d_M_survive_26 (v := 2) (by decide) ?_
    refine r_goto (tgt := 31) (pc := 27) C d_M_survive_27 (by decide) ?_
    exact J_31 a1 a1 2 μ3 h
theorem c_M_countSlots {l : Launch} (hl : l.stackTraces = false) {G : Gl} (hg : gf G = true) {post : Int32 → Mem → Prop} {μ : Mem} (h : wM_countSlots post μ) : Ct l G i_M_countSlots [.inr (.inl (some 17))] μ (poI post) noX := by
  refine ct_of hl (by decide) (Nat.le_of_ble_eq_true rfl) ?_
  intro K hKl C Q hE
  clear hl hKl
  replace C : Cx K G prog_8_method_27_code "LineCollectorModel" 4 { frames := 7, cells := 0, slots := 0, locals := 154 } := C
  replace Q : Cq K G { frames := 7, cells := 0, slots := 0, locals := 154 } (some .int) (poI post) noX := Q
  show Rn K G 4 0 [(0, .inr (.inl (some 17)))] [] μ 0 0
  have L_7 : ∀ (k : Int32 → Mem → Prop), (∀ (v1 : Int32) (μ : Mem), k v1 μ → Rn K G 4 24 [(0, .inr (.inl (some 17)))] [] μ 0 0) → ∀ (n : Nat) (l1 : Int32) (μ : Mem), wM_countSlots_7 k n l1 μ → Rn K G 4 7 [(0, .inr (.inl (some 17))), (1, .inl l1)] [] μ 0 0 := by
    intro k hk n
    induction n with
    | zero => intro l1 μ h; exact h.elim
    | succ n ih =>
      intro l1 μ h
      unfold wM_countSlots_7 at h
      refine r_iload_n (pc := 7) C d_M_countSlots_7 rfl 1 rfl ?_
      refine r_bipush (pc := 8) C d_M_countSlots_8 (v := 6) (by decide) ?_
      refine r_icmp_ge (tgt := 24) (pc := 10) C d_M_countSlots_10 (by decide) ?_ ?_
      · intro hc; replace h := h.1 hc
        refine r_sub [0] rfl ?_
        exact hk l1 μ h
      · intro hc; replace h := h.2 hc
        refine r_aload_n (pc := 13) C d_M_countSlots_13 rfl 0 rfl ?_
        refine r_iload_n (pc := 14) C d_M_countSlots_14 rfl 1 rfl ?_
        refine r_cVv (pc := 15) (a' := 0) (b' := 0) (As := [.inl l1]) (ci := 6) C (c_M_addSlot C.s hg h) o_M_addSlot rfl (lay_O hg rfl) (k_827 C.w) rfl ⟨by decide, by decide, by decide, by decide⟩ rfl rfl (Nat.le_of_ble_eq_true rfl) d_M_countSlots_15 rfl ?_
        intro μ2 h
        refine r_iinc (pc := 18) (v := 1) (lv' := [(0, .inr (.inl (some 17)))]) C d_M_countSlots_18 1 rfl (by decide) (by decide) rfl ?_
        refine r_goto (tgt := 7) (pc := 21) C d_M_countSlots_21 (by decide) ?_
        refine r_sub [1, 0] rfl ?_
        exact ih (l1 + 1) μ2 h
  have L_26 : ∀ (k : Int32 → Mem → Prop), (∀ (v1 : Int32) (μ : Mem), k v1 μ → Rn K G 4 53 [(0, .inr (.inl (some 17)))] [] μ 0 0) → ∀ (n : Nat) (l1 : Int32) (μ : Mem), wM_countSlots_26 k n l1 μ → Rn K G 4 26 [(0, .inr (.inl (some 17))), (1, .inl l1)] [] μ 0 0 := by
    intro k hk n
    induction n with
    | zero => intro l1 μ h; exact h.elim
    | succ n ih =>
      intro l1 μ h
      unfold wM_countSlots_26 at h
      refine r_iload_n (pc := 26) C d_M_countSlots_26 rfl 1 rfl ?_
      refine r_aload_n (pc := 27) C d_M_countSlots_27 rfl 0 rfl ?_
      refine r_getI (pc := 28) (ci := 6) C rfl 24 (by decide) (k_674 C.w) rfl (lay_O hg rfl) d_M_countSlots_28 ?_
      refine r_icmp_ge (tgt := 53) (pc := 31) C d_M_countSlots_31 (by decide) ?_ ?_
      · intro hc; replace h := h.1 hc
        refine r_sub [0] rfl ?_
        exact hk l1 μ h
      · intro hc; replace h := h.2 hc
        refine r_aload_n (pc := 34) C d_M_countSlots_34 rfl 0 rfl ?_
        refine r_bipush (pc := 35) C d_M_countSlots_35 (v := 6) (by decide) ?_
        refine r_aload_n (pc := 37) C d_M_countSlots_37 rfl 0 rfl ?_
        refine r_getR (pc := 38) (ci := 6) C rfl 22 (by decide) (k_672 C.w) rfl (lay_O hg rfl) d_M_countSlots_38 ?_
        refine r_iload_n (pc := 41) C d_M_countSlots_41 rfl 1 rfl ?_
        obtain ⟨b5, h⟩ := h
        refine r_iald (pc := 42) C (lay_A hg rfl) b5 d_M_countSlots_42 ?_
        refine r_iadd (pc := 43) C d_M_countSlots_43 ?_
        refine r_cVv (pc := 44) (a' := 0) (b' := 0) (As := [.inl (6 + (mI μ 31 (l1).toNatClampNeg))]) (ci := 6) C (c_M_addSlot C.s hg h) o_M_addSlot rfl (lay_O hg rfl) (k_827 C.w) rfl ⟨by decide, by decide, by decide, by decide⟩ rfl rfl (Nat.le_of_ble_eq_true rfl) d_M_countSlots_44 rfl ?_
        intro μ6 h
        refine r_iinc (pc := 47) (v := 1) (lv' := [(0, .inr (.inl (some 17)))]) C d_M_countSlots_47 1 rfl (by decide) (by decide) rfl ?_
        refine r_goto (tgt := 26) (pc := 50) C d_M_countSlots_50 (by decide) ?_
        refine r_sub [1, 0] rfl ?_
        exact ih (l1 + 1) μ6 h
  have J_150 : ∀ (l1 : Int32) (l2 : Int32) (l3 : Int32) (k57 : Int32 → Int32 → Mem → Prop) , (∀ (v1 : Int32) (v2 : Int32) (μ : Mem), k57 v1 v2 μ → Rn K G 4 57 [(0, .inr (.inl (some 17))), (1, .inl v1), (2, .inl v2)] [] μ 0 0) → ∀ (μ : Mem), wM_countSlots_150 l1 l2 l3 k57 μ → Rn K G 4 150 [(0, .inr (.inl (some 17))), (1, .inl l1), (2, .inl l2), (3, .inl l3)] [] μ 0 0 := by
    intro l1 l2 l3 k57 hk57 μ h
    unfold wM_countSlots_150 at h
    refine r_iload_n (pc := 150) C d_M_countSlots_150 rfl 3 rfl ?_
    refine r_if_lt (tgt := 172) (pc := 151) C d_M_countSlots_151 (by decide) ?_ ?_
    · intro hc; replace h := h.1 hc
      refine r_iinc (pc := 172) (v := 1) (lv' := [(0, .inr (.inl (some 17))), (1, .inl l1), (3, .inl l3)]) C d_M_countSlots_172 2 rfl (by decide) (by decide) rfl ?_
      refine r_goto (tgt := 57) (pc := 175) C d_M_countSlots_175 (by decide) ?_
      refine r_sub [1, 2, 0] rfl ?_
      exact hk57 l1 (l2 + 1) μ h
    · intro hc; replace h := h.2 hc
      refine r_aload_n (pc := 154) C d_M_countSlots_154 rfl 0 rfl ?_
      refine r_getR (pc := 155) (ci := 6) C rfl 2 (by decide) (k_652 C.w) rfl (lay_O hg rfl) d_M_countSlots_155 ?_
      refine r_iload_n (pc := 158) C d_M_countSlots_158 rfl 3 rfl ?_
      obtain ⟨b11, h⟩ := h
      refine r_iald (pc := 159) C (lay_A hg rfl) b11 d_M_countSlots_159 ?_
      refine r_iconst (pc := 160) C d_M_countSlots_160 (v := 1) (by decide) ?_
      refine r_icmp_ne (tgt := 172) (pc := 161) C d_M_countSlots_161 (by decide) ?_ ?_
      · intro hc; replace h := h.2 hc
        refine r_iinc (pc := 172) (v := 1) (lv' := [(0, .inr (.inl (some 17))), (1, .inl l1), (3, .inl l3)]) C d_M_countSlots_172 2 rfl (by decide) (by decide) rfl ?_
        refine r_goto (tgt := 57) (pc := 175) C d_M_countSlots_175 (by decide) ?_
        refine r_sub [1, 2, 0] rfl ?_
        exact hk57 l1 (l2 + 1) μ h
      · intro hc; replace h := h.1 hc
        refine r_aload_n (pc := 164) C d_M_countSlots_164 rfl 0 rfl ?_
        refine r_iload_n (pc := 165) C d_M_countSlots_165 rfl 3 rfl ?_
        refine r_cVv (pc := 166) (a' := 0) (b' := 0) (As := [.inl l3]) (ci := 6) C (c_M_survive C.s hg h) o_M_survive rfl (lay_O hg rfl) (k_831 C.w) rfl ⟨by decide, by decide, by decide, by decide⟩ rfl rfl (Nat.le_of_ble_eq_true rfl) d_M_countSlots_166 rfl ?_
        intro μ12 h
        refine r_iinc (pc := 169) (v := 1) (lv' := [(0, .inr (.inl (some 17))), (2, .inl l2), (3, .inl l3)]) C d_M_countSlots_169 1 rfl (by decide) (by decide) rfl ?_
        refine r_iinc (pc := 172) (v := 1) (lv' := [(1, .inl (l1 + 1)), (0, .inr (.inl (some 17))), (3, .inl l3)]) C d_M_countSlots_172 2 rfl (by decide) (by decide) rfl ?_
        refine r_goto (tgt := 57) (pc := 175) C d_M_countSlots_175 (by decide) ?_
        refine r_sub [2, 1, 0] rfl ?_
        exact hk57 (l1 + 1) (l2 + 1) μ12 h
  have J_104 : ∀ (l1 : Int32) (l2 : Int32) (t0 : Int32) (k57 : Int32 → Int32 → Mem → Prop) , (∀ (v1 : Int32) (v2 : Int32) (μ : Mem), k57 v1 v2 μ → Rn K G 4 57 [(0, .inr (.inl (some 17))), (1, .inl v1), (2, .inl v2)] [] μ 0 0) → ∀ (μ : Mem), wM_countSlots_104 l1 l2 t0 k57 μ → Rn K G 4 104 [(0, .inr (.inl (some 17))), (1, .inl l1), (2, .inl l2)] [.int t0] μ 0 0 := by
    intro l1 l2 t0 k57 hk57 μ h
    unfold wM_countSlots_104 at h
    refine r_istore_n (pc := 104) (lv' := [(0, .inr (.inl (some 17))), (1, .inl l1), (2, .inl l2)]) C d_M_countSlots_104 rfl (by decide) rfl ?_
    refine r_iload_n (pc := 105) C d_M_countSlots_105 rfl 0 rfl ?_
    refine r_if_lt (tgt := 150) (pc := 106) C d_M_countSlots_106 (by decide) ?_ ?_
    · intro hc; replace h := h.1 hc
      refine r_sub [1, 2, 3, 0] rfl ?_
      exact J_150 l1 l2 t0 k57 hk57 μ h
    · intro hc; replace h := h.2 hc
      refine r_aload_n (pc := 109) C d_M_countSlots_109 rfl 1 rfl ?_
      refine r_getR (pc := 110) (ci := 6) C rfl 2 (by decide) (k_652 C.w) rfl (lay_O hg rfl) d_M_countSlots_110 ?_
      refine r_iload_n (pc := 113) C d_M_countSlots_113 rfl 0 rfl ?_
      obtain ⟨b13, h⟩ := h
      refine r_iald (pc := 114) C (lay_A hg rfl) b13 d_M_countSlots_114 ?_
      refine r_iconst (pc := 115) C d_M_countSlots_115 (v := 2) (by decide) ?_
      refine r_icmp_ne (tgt := 150) (pc := 116) C d_M_countSlots_116 (by decide) ?_ ?_
      · intro hc; replace h := h.2 hc
        refine r_sub [1, 2, 3, 0] rfl ?_
        exact J_150 l1 l2 t0 k57 hk57 μ h
      · intro hc; replace h := h.1 hc
        refine r_aload_n (pc := 119) C d_M_countSlots_119 rfl 1 rfl ?_
        refine r_getR (pc := 120) (ci := 6) C rfl 6 (by decide) (k_656 C.w) rfl (lay_O hg rfl) d_M_countSlots_120 ?_
        refine r_iload_n (pc := 123) C d_M_countSlots_123 rfl 0 rfl ?_
        refine r_aload_n (pc := 124) C d_M_countSlots_124 rfl 1 rfl ?_
        refine r_getR (pc := 125) (ci := 6) C rfl 6 (by decide) (k_656 C.w) rfl (lay_O hg rfl) d_M_countSlots_125 ?_
        refine r_iload_n (pc := 128) C d_M_countSlots_128 rfl 0 rfl ?_
        refine r_iald (pc := 129) C (lay_A hg rfl) b13 d_M_countSlots_129 ?_
        refine r_iconst (pc := 130) C d_M_countSlots_130 (v := 3) (by decide) ?_
        refine r_icmp_ge (tgt := 145) (pc := 131) C d_M_countSlots_131 (by decide) ?_ ?_
        · intro hc; replace h := h.1 hc
          refine r_iconst (pc := 145) C d_M_countSlots_145 (v := 3) (by decide) ?_
          refine r_iast (pc := 146) C (lay_A hg rfl) b13 d_M_countSlots_146 ?_
          intro μ14 eμ14; replace h := h μ14 eμ14
          refine r_goto (tgt := 172) (pc := 147) C d_M_countSlots_147 (by decide) ?_
          refine r_iinc (pc := 172) (v := 1) (lv' := [(3, .inl t0), (0, .inr (.inl (some 17))), (1, .inl l1)]) C d_M_countSlots_172 3 rfl (by decide) (by decide) rfl ?_
          refine r_goto (tgt := 57) (pc := 175) C d_M_countSlots_175 (by decide) ?_
          refine r_sub [2, 3, 0] rfl ?_
          exact hk57 l1 (l2 + 1) μ14 h
        · intro hc; replace h := h.2 hc
          refine r_aload_n (pc := 134) C d_M_countSlots_134 rfl 1 rfl ?_
          refine r_getR (pc := 135) (ci := 6) C rfl 6 (by decide) (k_656 C.w) rfl (lay_O hg rfl) d_M_countSlots_135 ?_
          refine r_iload_n (pc := 138) C d_M_countSlots_138 rfl 0 rfl ?_
          refine r_iald (pc := 139) C (lay_A hg rfl) b13 d_M_countSlots_139 ?_
          refine r_iconst (pc := 140) C d_M_countSlots_140 (v := 1) (by decide) ?_
          refine r_iadd (pc := 141) C d_M_countSlots_141 ?_
          refine r_goto (tgt := 146) (pc := 142) C d_M_countSlots_142 (by decide) ?_
          refine r_iast (pc := 146) C (lay_A hg rfl) b13 d_M_countSlots_146 ?_
          intro μ15 eμ15; replace h := h μ15 eμ15
          refine r_goto (tgt := 172) (pc := 147) C d_M_countSlots_147 (by decide) ?_
          refine r_iinc (pc := 172) (v := 1) (lv' := [(3, .inl t0), (0, .inr (.inl (some 17))), (1, .inl l1)]) C d_M_countSlots_172 3 rfl (by decide) (by decide) rfl ?_
          refine r_goto (tgt := 57) (pc := 175) C d_M_countSlots_175 (by decide) ?_
          refine r_sub [2, 3, 0] rfl ?_
          exact hk57 l1 (l2 + 1) μ15 h
  have L_57 : ∀ (k : Int32 → Int32 → Mem → Prop), (∀ (v1 : Int32) (v2 : Int32) (μ : Mem), k v1 v2 μ → Rn K G 4 178 [(1, .inl v1)] [] μ 0 0) → ∀ (n : Nat) (l1 : Int32) (l2 : Int32) (μ : Mem), wM_countSlots_57 k n l1 l2 μ → Rn K G 4 57 [(0, .inr (.inl (some 17))), (1, .inl l1), (2, .inl l2)] [] μ 0 0 := by
    intro k hk n
    induction n with
    | zero => intro l1 l2 μ h; exact h.elim
    | succ n ih =>
      intro l1 l2 μ h
      unfold wM_countSlots_57 at h
      refine r_iload_n (pc := 57) C d_M_countSlots_57 rfl 2 rfl ?_
      refine r_aload_n (pc := 58) C d_M_countSlots_58 rfl 0 rfl ?_
      refine r_getI (pc := 59) (ci := 6) C rfl 26 (by decide) (k_676 C.w) rfl (lay_O hg rfl) d_M_countSlots_59 ?_
      refine r_icmp_ge (tgt := 178) (pc := 62) C d_M_countSlots_62 (by decide) ?_ ?_
      · intro hc; replace h := h.1 hc
        refine r_sub [1] rfl ?_
        exact hk l1 l2 μ h
      · intro hc; replace h := h.2 hc
        refine r_aload_n (pc := 65) C d_M_countSlots_65 rfl 0 rfl ?_
        refine r_getR (pc := 66) (ci := 6) C rfl 25 (by decide) (k_675 C.w) rfl (lay_O hg rfl) d_M_countSlots_66 ?_
        refine r_iload_n (pc := 69) C d_M_countSlots_69 rfl 2 rfl ?_
        obtain ⟨b9, h⟩ := h
        refine r_iald (pc := 70) C (lay_A hg rfl) b9 d_M_countSlots_70 ?_
        refine r_bipush (pc := 71) C d_M_countSlots_71 (v := 6) (by decide) ?_
        refine r_icmp_ge (tgt := 90) (pc := 73) C d_M_countSlots_73 (by decide) ?_ ?_
        · intro hc; replace h := h.1 hc
          refine r_aload_n (pc := 90) C d_M_countSlots_90 rfl 0 rfl ?_
          refine r_getR (pc := 91) (ci := 6) C rfl 8 (by decide) (k_658 C.w) rfl (lay_O hg rfl) d_M_countSlots_91 ?_
          refine r_aload_n (pc := 94) C d_M_countSlots_94 rfl 0 rfl ?_
          refine r_getR (pc := 95) (ci := 6) C rfl 25 (by decide) (k_675 C.w) rfl (lay_O hg rfl) d_M_countSlots_95 ?_
          refine r_iload_n (pc := 98) C d_M_countSlots_98 rfl 2 rfl ?_
          refine r_iald (pc := 99) C (lay_A hg rfl) b9 d_M_countSlots_99 ?_
          refine r_bipush (pc := 100) C d_M_countSlots_100 (v := 6) (by decide) ?_
          refine r_isub (pc := 102) C d_M_countSlots_102 ?_
          obtain ⟨b10, h⟩ := h
          refine r_iald (pc := 103) C (lay_A hg rfl) b10 d_M_countSlots_103 ?_
          exact J_104 l1 l2 (mI μ 25 ((mI μ 33 (l2).toNatClampNeg) - 6).toNatClampNeg) ((wM_countSlots_57 k n)) ih μ h
        · intro hc; replace h := h.2 hc
          refine r_aload_n (pc := 76) C d_M_countSlots_76 rfl 0 rfl ?_
          refine r_getR (pc := 77) (ci := 6) C rfl 11 (by decide) (k_661 C.w) rfl (lay_O hg rfl) d_M_countSlots_77 ?_
          refine r_aload_n (pc := 80) C d_M_countSlots_80 rfl 0 rfl ?_
          refine r_getR (pc := 81) (ci := 6) C rfl 25 (by decide) (k_675 C.w) rfl (lay_O hg rfl) d_M_countSlots_81 ?_
          refine r_iload_n (pc := 84) C d_M_countSlots_84 rfl 2 rfl ?_
          refine r_iald (pc := 85) C (lay_A hg rfl) b9 d_M_countSlots_85 ?_
          obtain ⟨b16, h⟩ := h
          refine r_iald (pc := 86) C (lay_A hg rfl) b16 d_M_countSlots_86 ?_
          refine r_goto (tgt := 104) (pc := 87) C d_M_countSlots_87 (by decide) ?_
          exact J_104 l1 l2 (mI μ 27 (mI μ 33 (l2).toNatClampNeg).toNatClampNeg) ((wM_countSlots_57 k n)) ih μ h
  unfold wM_countSlots at h
  refine r_aload_n (pc := 0) C d_M_countSlots_0 rfl 0 rfl ?_
  refine r_iconst (pc := 1) C d_M_countSlots_1 (v := 0) (by decide) ?_
  refine r_putI (pc := 2) (ci := 6) C rfl 26 (by decide) (k_676 C.w) rfl rfl p_I (lay_O hg rfl) d_M_countSlots_2 ?_
  intro μ1 eμ1; replace h := h μ1 eμ1
  refine r_iconst (pc := 5) C d_M_countSlots_5 (v := 0) (by decide) ?_
  refine r_istore_n (pc := 6) (lv' := [(0, .inr (.inl (some 17)))]) C d_M_countSlots_6 rfl (by decide) rfl ?_
  obtain ⟨n22, h⟩ := h
  refine r_sub [1, 0] rfl ?_
  refine L_7 _ ?_ n22 0 μ1 h
  intro v4 μ3 h
  refine r_iconst (pc := 24) C d_M_countSlots_24 (v := 0) (by decide) ?_
  refine r_istore_n (pc := 25) (lv' := [(0, .inr (.inl (some 17)))]) C d_M_countSlots_25 rfl (by decide) rfl ?_
  obtain ⟨n21, h⟩ := h
  refine r_sub [1, 0] rfl ?_
  refine L_26 _ ?_ n21 0 μ3 h
  intro v8 μ7 h
  refine r_iconst (pc := 53) C d_M_countSlots_53 (v := 0) (by decide) ?_
  refine r_istore_n (pc := 54) (lv' := [(0, .inr (.inl (some 17)))]) C d_M_countSlots_54 rfl (by decide) rfl ?_
  refine r_iconst (pc := 55) C d_M_countSlots_55 (v := 0) (by decide) ?_
  refine r_istore_n (pc := 56) (lv' := [(1, .inl 0), (0, .inr (.inl (some 17)))]) C d_M_countSlots_56 rfl (by decide) rfl ?_
  obtain ⟨n20, h⟩ := h
  refine r_sub [2, 1, 0] rfl ?_
  refine L_57 _ ?_ n20 0 0 μ7 h
  intro v18 v19 μ17 h
  refine r_iload_n (pc := 178) C d_M_countSlots_178 rfl 0 rfl ?_
  exact r_iret (pc := 179) C Q d_M_countSlots_179 (by decide) (by decide) h
theorem c_M_endStep {l : Launch} (hl : l.stackTraces = false) {G : Gl} (hg : gf G = true) {post : Mem → Prop} {μ : Mem} (h : wM_endStep post μ) : Ct l G i_M_endStep [.inr (.inl (some 17))] μ (poV post) noX := by
  refine ct_of hl (by decide) (Nat.le_of_ble_eq_true rfl) ?_
  intro K hKl C Q hE
  clear hl hKl
  replace C : Cx K G prog_8_method_28_code "LineCollectorModel" 2 { frames := 0, cells := 0, slots := 0, locals := 0 } := C
  replace Q : Cq K G { frames := 0, cells := 0, slots := 0, locals := 0 } (none) (poV post) noX := Q
  show Rn K G 2 0 [(0, .inr (.inl (some 17)))] [] μ 0 0
  have L_2 : ∀ (k : Int32 → Mem → Prop), (∀ (v1 : Int32) (μ : Mem), k v1 μ → Rn K G 2 21 [] [] μ 0 0) → ∀ (n : Nat) (l1 : Int32) (μ : Mem), wM_endStep_2 k n l1 μ → Rn K G 2 2 [(0, .inr (.inl (some 17))), (1, .inl l1)] [] μ 0 0 := by
    intro k hk n
    induction n with
    | zero => intro l1 μ h; exact h.elim
    | succ n ih =>
      intro l1 μ h
      unfold wM_endStep_2 at h
      refine r_iload_n (pc := 2) C d_M_endStep_2 rfl 1 rfl ?_
      refine r_bipush (pc := 3) C d_M_endStep_3 (v := 32) (by decide) ?_
      refine r_icmp_ge (tgt := 21) (pc := 5) C d_M_endStep_5 (by decide) ?_ ?_
      · intro hc; replace h := h.1 hc
        refine r_sub [] rfl ?_
        exact hk l1 μ h
      · intro hc; replace h := h.2 hc
        refine r_aload_n (pc := 8) C d_M_endStep_8 rfl 0 rfl ?_
        refine r_getR (pc := 9) (ci := 6) C rfl 18 (by decide) (k_668 C.w) rfl (lay_O hg rfl) d_M_endStep_9 ?_
        refine r_iload_n (pc := 12) C d_M_endStep_12 rfl 1 rfl ?_
        refine r_iconst (pc := 13) C d_M_endStep_13 (v := 0) (by decide) ?_
        obtain ⟨b1, h⟩ := h
        refine r_zast (pc := 14) C (lay_A hg rfl) b1 d_M_endStep_14 (Or.inl rfl) ?_
        intro μ2 eμ2; replace h := h μ2 eμ2
        refine r_iinc (pc := 15) (v := 1) (lv' := [(0, .inr (.inl (some 17)))]) C d_M_endStep_15 1 rfl (by decide) (by decide) rfl ?_
        refine r_goto (tgt := 2) (pc := 18) C d_M_endStep_18 (by decide) ?_
        refine r_sub [1, 0] rfl ?_
        exact ih (l1 + 1) μ2 h
  unfold wM_endStep at h
  refine r_iconst (pc := 0) C d_M_endStep_0 (v := 0) (by decide) ?_
  refine r_istore_n (pc := 1) (lv' := [(0, .inr (.inl (some 17)))]) C d_M_endStep_1 rfl (by decide) rfl ?_
  obtain ⟨n5, h⟩ := h
  refine r_sub [1, 0] rfl ?_
  refine L_2 _ ?_ n5 0 μ h
  intro v4 μ3 h
  exact r_vret (pc := 21) C Q d_M_endStep_21 (by decide) (by decide) h
theorem c_M_settle {l : Launch} (hl : l.stackTraces = false) {G : Gl} (hg : gf G = true) {post : Mem → Prop} {μ : Mem} (h : wM_settle post μ) : Ct l G i_M_settle [.inr (.inl (some 17))] μ (poV post) noX := by
  refine ct_of hl (by decide) (Nat.le_of_ble_eq_true rfl) ?_
  intro K hKl C Q hE
  clear hl hKl
  replace C : Cx K G prog_8_method_29_code "LineCollectorModel" 2 { frames := 2, cells := 0, slots := 0, locals := 44 } := C
  replace Q : Cq K G { frames := 2, cells := 0, slots := 0, locals := 44 } (none) (poV post) noX := Q
  show Rn K G 2 0 [(0, .inr (.inl (some 17)))] [] μ 0 0
  have L_2 : ∀ (k : Int32 → Mem → Prop), (∀ (v1 : Int32) (μ : Mem), k v1 μ → Rn K G 2 30 [(0, .inr (.inl (some 17)))] [] μ 0 0) → ∀ (n : Nat) (l1 : Int32) (μ : Mem), wM_settle_2 k n l1 μ → Rn K G 2 2 [(0, .inr (.inl (some 17))), (1, .inl l1)] [] μ 0 0 := by
    intro k hk n
    induction n with
    | zero => intro l1 μ h; exact h.elim
    | succ n ih =>
      intro l1 μ h
      unfold wM_settle_2 at h
      refine r_iload_n (pc := 2) C d_M_settle_2 rfl 1 rfl ?_
      refine r_sipush (pc := 3) C d_M_settle_3 (v := 256) (by decide) ?_
      refine r_icmp_ge (tgt := 30) (pc := 6) C d_M_settle_6 (by decide) ?_ ?_
      · intro hc; replace h := h.1 hc
        refine r_sub [0] rfl ?_
        exact hk l1 μ h
      · intro hc; replace h := h.2 hc
        refine r_aload_n (pc := 9) C d_M_settle_9 rfl 0 rfl ?_
        refine r_getR (pc := 10) (ci := 6) C rfl 2 (by decide) (k_652 C.w) rfl (lay_O hg rfl) d_M_settle_10 ?_
        refine r_iload_n (pc := 13) C d_M_settle_13 rfl 1 rfl ?_
        obtain ⟨b1, h⟩ := h
        refine r_iald (pc := 14) C (lay_A hg rfl) b1 d_M_settle_14 ?_
        refine r_iconst (pc := 15) C d_M_settle_15 (v := 1) (by decide) ?_
        refine r_icmp_ne (tgt := 24) (pc := 16) C d_M_settle_16 (by decide) ?_ ?_
        · intro hc; replace h := h.2 hc
          refine r_iinc (pc := 24) (v := 1) (lv' := [(0, .inr (.inl (some 17)))]) C d_M_settle_24 1 rfl (by decide) (by decide) rfl ?_
          refine r_goto (tgt := 2) (pc := 27) C d_M_settle_27 (by decide) ?_
          refine r_sub [1, 0] rfl ?_
          exact ih (l1 + 1) μ h
        · intro hc; replace h := h.1 hc
          refine r_aload_n (pc := 19) C d_M_settle_19 rfl 0 rfl ?_
          refine r_iload_n (pc := 20) C d_M_settle_20 rfl 1 rfl ?_
          refine r_cVv (pc := 21) (a' := 0) (b' := 0) (As := [.inl l1]) (ci := 6) C (c_M_lose C.s hg h) o_M_lose rfl (lay_O hg rfl) (k_811 C.w) rfl ⟨by decide, by decide, by decide, by decide⟩ rfl rfl (Nat.le_of_ble_eq_true rfl) d_M_settle_21 rfl ?_
          intro μ2 h
          refine r_iinc (pc := 24) (v := 1) (lv' := [(0, .inr (.inl (some 17)))]) C d_M_settle_24 1 rfl (by decide) (by decide) rfl ?_
          refine r_goto (tgt := 2) (pc := 27) C d_M_settle_27 (by decide) ?_
          refine r_sub [1, 0] rfl ?_
          exact ih (l1 + 1) μ2 h
  have L_32 : ∀ (k : Int32 → Mem → Prop), (∀ (v1 : Int32) (μ : Mem), k v1 μ → Rn K G 2 54 [(0, .inr (.inl (some 17)))] [] μ 0 0) → ∀ (n : Nat) (l1 : Int32) (μ : Mem), wM_settle_32 k n l1 μ → Rn K G 2 32 [(0, .inr (.inl (some 17))), (1, .inl l1)] [] μ 0 0 := by
    intro k hk n
    induction n with
    | zero => intro l1 μ h; exact h.elim
    | succ n ih =>
      intro l1 μ h
      unfold wM_settle_32 at h
      refine r_iload_n (pc := 32) C d_M_settle_32 rfl 1 rfl ?_
      refine r_bipush (pc := 33) C d_M_settle_33 (v := 6) (by decide) ?_
      refine r_icmp_ge (tgt := 54) (pc := 35) C d_M_settle_35 (by decide) ?_ ?_
      · intro hc; replace h := h.1 hc
        refine r_sub [0] rfl ?_
        exact hk l1 μ h
      · intro hc; replace h := h.2 hc
        refine r_aload_n (pc := 38) C d_M_settle_38 rfl 0 rfl ?_
        refine r_aload_n (pc := 39) C d_M_settle_39 rfl 0 rfl ?_
        refine r_getR (pc := 40) (ci := 6) C rfl 12 (by decide) (k_662 C.w) rfl (lay_O hg rfl) d_M_settle_40 ?_
        refine r_iload_n (pc := 43) C d_M_settle_43 rfl 1 rfl ?_
        obtain ⟨b5, h⟩ := h
        refine r_iald (pc := 44) C (lay_A hg rfl) b5 d_M_settle_44 ?_
        refine r_cVv (pc := 45) (a' := 0) (b' := 0) (As := [.inl (mI μ 28 (l1).toNatClampNeg)]) (ci := 6) C (c_M_wait C.s hg h) o_M_wait rfl (lay_O hg rfl) (k_803 C.w) rfl ⟨by decide, by decide, by decide, by decide⟩ rfl rfl (Nat.le_of_ble_eq_true rfl) d_M_settle_45 rfl ?_
        intro μ6 h
        refine r_iinc (pc := 48) (v := 1) (lv' := [(0, .inr (.inl (some 17)))]) C d_M_settle_48 1 rfl (by decide) (by decide) rfl ?_
        refine r_goto (tgt := 32) (pc := 51) C d_M_settle_51 (by decide) ?_
        refine r_sub [1, 0] rfl ?_
        exact ih (l1 + 1) μ6 h
  have J_106 : ∀ (l1 : Int32) (k56 : Int32 → Mem → Prop) , (∀ (v1 : Int32) (μ : Mem), k56 v1 μ → Rn K G 2 56 [(0, .inr (.inl (some 17))), (1, .inl v1)] [] μ 0 0) → ∀ (μ : Mem), wM_settle_106 l1 k56 μ → Rn K G 2 106 [(0, .inr (.inl (some 17))), (1, .inl l1)] [] μ 0 0 := by
    intro l1 k56 hk56 μ h
    unfold wM_settle_106 at h
    refine r_aload_n (pc := 106) C d_M_settle_106 rfl 0 rfl ?_
    refine r_getR (pc := 107) (ci := 6) C rfl 9 (by decide) (k_659 C.w) rfl (lay_O hg rfl) d_M_settle_107 ?_
    refine r_aload_n (pc := 110) C d_M_settle_110 rfl 0 rfl ?_
    refine r_getR (pc := 111) (ci := 6) C rfl 22 (by decide) (k_672 C.w) rfl (lay_O hg rfl) d_M_settle_111 ?_
    refine r_iload_n (pc := 114) C d_M_settle_114 rfl 1 rfl ?_
    obtain ⟨b11, h⟩ := h
    refine r_iald (pc := 115) C (lay_A hg rfl) b11 d_M_settle_115 ?_
    refine r_iconst (pc := 116) C d_M_settle_116 (v := 0) (by decide) ?_
    obtain ⟨b12, h⟩ := h
    refine r_zast (pc := 117) C (lay_A hg rfl) b12 d_M_settle_117 (Or.inl rfl) ?_
    intro μ13 eμ13; replace h := h μ13 eμ13
    refine r_iinc (pc := 118) (v := 1) (lv' := [(0, .inr (.inl (some 17)))]) C d_M_settle_118 1 rfl (by decide) (by decide) rfl ?_
    refine r_goto (tgt := 56) (pc := 121) C d_M_settle_121 (by decide) ?_
    refine r_sub [1, 0] rfl ?_
    exact hk56 (l1 + 1) μ13 h
  have L_56 : ∀ (k : Int32 → Mem → Prop), (∀ (v1 : Int32) (μ : Mem), k v1 μ → Rn K G 2 124 [(0, .inr (.inl (some 17)))] [] μ 0 0) → ∀ (n : Nat) (l1 : Int32) (μ : Mem), wM_settle_56 k n l1 μ → Rn K G 2 56 [(0, .inr (.inl (some 17))), (1, .inl l1)] [] μ 0 0 := by
    intro k hk n
    induction n with
    | zero => intro l1 μ h; exact h.elim
    | succ n ih =>
      intro l1 μ h
      unfold wM_settle_56 at h
      refine r_iload_n (pc := 56) C d_M_settle_56 rfl 1 rfl ?_
      refine r_aload_n (pc := 57) C d_M_settle_57 rfl 0 rfl ?_
      refine r_getI (pc := 58) (ci := 6) C rfl 24 (by decide) (k_674 C.w) rfl (lay_O hg rfl) d_M_settle_58 ?_
      refine r_icmp_ge (tgt := 124) (pc := 61) C d_M_settle_61 (by decide) ?_ ?_
      · intro hc; replace h := h.1 hc
        refine r_sub [0] rfl ?_
        exact hk l1 μ h
      · intro hc; replace h := h.2 hc
        refine r_aload_n (pc := 64) C d_M_settle_64 rfl 0 rfl ?_
        refine r_aload_n (pc := 65) C d_M_settle_65 rfl 0 rfl ?_
        refine r_getR (pc := 66) (ci := 6) C rfl 23 (by decide) (k_673 C.w) rfl (lay_O hg rfl) d_M_settle_66 ?_
        refine r_iload_n (pc := 69) C d_M_settle_69 rfl 1 rfl ?_
        obtain ⟨b9, h⟩ := h
        refine r_iald (pc := 70) C (lay_A hg rfl) b9 d_M_settle_70 ?_
        refine r_cVv (pc := 71) (a' := 0) (b' := 0) (As := [.inl (mI μ 32 (l1).toNatClampNeg)]) (ci := 6) C (c_M_wait C.s hg h) o_M_wait rfl (lay_O hg rfl) (k_803 C.w) rfl ⟨by decide, by decide, by decide, by decide⟩ rfl rfl (Nat.le_of_ble_eq_true rfl) d_M_settle_71 rfl ?_
        intro μ10 h
        refine r_aload_n (pc := 74) C d_M_settle_74 rfl 0 rfl ?_
        refine r_getI (pc := 75) (ci := 6) C rfl 27 (by decide) (k_677 C.w) rfl (lay_O hg rfl) d_M_settle_75 ?_
        refine r_if_eq (tgt := 106) (pc := 78) C d_M_settle_78 (by decide) ?_ ?_
        · intro hc; replace h := h.1 hc
          exact J_106 l1 ((wM_settle_56 k n)) ih μ10 h
        · intro hc; replace h := h.2 hc
          refine r_aload_n (pc := 81) C d_M_settle_81 rfl 0 rfl ?_
          refine r_aload_n (pc := 82) C d_M_settle_82 rfl 0 rfl ?_
          refine r_getR (pc := 83) (ci := 6) C rfl 23 (by decide) (k_673 C.w) rfl (lay_O hg rfl) d_M_settle_83 ?_
          refine r_iload_n (pc := 86) C d_M_settle_86 rfl 1 rfl ?_
          obtain ⟨b14, h⟩ := h
          refine r_iald (pc := 87) C (lay_A hg rfl) b14 d_M_settle_87 ?_
          refine r_cVi (pc := 88) (a' := 0) (b' := 0) (As := [.inl (mI μ10 32 (l1).toNatClampNeg)]) (ci := 6) C (c_M_isWhite C.s hg h) o_M_isWhite rfl (lay_O hg rfl) (k_807 C.w) rfl ⟨by decide, by decide, by decide, by decide⟩ rfl rfl (Nat.le_of_ble_eq_true rfl) d_M_settle_88 rfl ?_
          intro r16 μ15 h
          refine r_if_eq (tgt := 106) (pc := 91) C d_M_settle_91 (by decide) ?_ ?_
          · intro hc; replace h := h.1 hc
            exact J_106 l1 ((wM_settle_56 k n)) ih μ15 h
          · intro hc; replace h := h.2 hc
            refine r_aload_n (pc := 94) C d_M_settle_94 rfl 0 rfl ?_
            refine r_getR (pc := 95) (ci := 6) C rfl 7 (by decide) (k_657 C.w) rfl (lay_O hg rfl) d_M_settle_95 ?_
            refine r_aload_n (pc := 98) C d_M_settle_98 rfl 0 rfl ?_
            refine r_getR (pc := 99) (ci := 6) C rfl 23 (by decide) (k_673 C.w) rfl (lay_O hg rfl) d_M_settle_99 ?_
            refine r_iload_n (pc := 102) C d_M_settle_102 rfl 1 rfl ?_
            obtain ⟨b17, h⟩ := h
            refine r_iald (pc := 103) C (lay_A hg rfl) b17 d_M_settle_103 ?_
            refine r_iconst (pc := 104) C d_M_settle_104 (v := 1) (by decide) ?_
            obtain ⟨b18, h⟩ := h
            refine r_iast (pc := 105) C (lay_A hg rfl) b18 d_M_settle_105 ?_
            intro μ19 eμ19; replace h := h μ19 eμ19
            exact J_106 l1 ((wM_settle_56 k n)) ih μ19 h
  unfold wM_settle at h
  refine r_iconst (pc := 0) C d_M_settle_0 (v := 0) (by decide) ?_
  refine r_istore_n (pc := 1) (lv' := [(0, .inr (.inl (some 17)))]) C d_M_settle_1 rfl (by decide) rfl ?_
  obtain ⟨n25, h⟩ := h
  refine r_sub [1, 0] rfl ?_
  refine L_2 _ ?_ n25 0 μ h
  intro v4 μ3 h
  refine r_iconst (pc := 30) C d_M_settle_30 (v := 0) (by decide) ?_
  refine r_istore_n (pc := 31) (lv' := [(0, .inr (.inl (some 17)))]) C d_M_settle_31 rfl (by decide) rfl ?_
  obtain ⟨n24, h⟩ := h
  refine r_sub [1, 0] rfl ?_
  refine L_32 _ ?_ n24 0 μ3 h
  intro v8 μ7 h
  refine r_iconst (pc := 54) C d_M_settle_54 (v := 0) (by decide) ?_
  refine r_istore_n (pc := 55) (lv' := [(0, .inr (.inl (some 17)))]) C d_M_settle_55 rfl (by decide) rfl ?_
  obtain ⟨n23, h⟩ := h
  refine r_sub [1, 0] rfl ?_
  refine L_56 _ ?_ n23 0 μ7 h
  intro v21 μ20 h
  refine r_aload_n (pc := 124) C d_M_settle_124 rfl 0 rfl ?_
  refine r_iconst (pc := 125) C d_M_settle_125 (v := 0) (by decide) ?_
  refine r_putI (pc := 126) (ci := 6) C rfl 24 (by decide) (k_674 C.w) rfl rfl p_I (lay_O hg rfl) d_M_settle_126 ?_
  intro μ22 eμ22; replace h := h μ22 eμ22
  exact r_vret (pc := 129) C Q d_M_settle_129 (by decide) (by decide) h
