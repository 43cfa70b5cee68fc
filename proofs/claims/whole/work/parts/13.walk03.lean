/-! The machine meets the predicates (written by a program) -/
theorem c_C_recountStuck {l : Launch} (hl : l.stackTraces = false) {G : Gl} (hg : gf G = true) {post : Mem → Prop} {μ : Mem} (h : wC_recountStuck post μ) : Ct l G i_C_recountStuck [.inr (.inl (some 0))] μ (poV post) noX := by
  refine ct_of hl (by decide) (Nat.le_of_ble_eq_true rfl) ?_
  intro K hKl C Q hE
  clear hl hKl
  replace C : Cx K G prog_1_method_39_code "LineCollector" 5 { frames := 4, cells := 0, slots := 0, locals := 85 } := C
  replace Q : Cq K G { frames := 4, cells := 0, slots := 0, locals := 85 } (none) (poV post) noX := Q
  show Rn K G 5 0 [(0, .inr (.inl (some 0)))] [] μ 0 0
  have L_10 : ∀ (l2 : Int32) (k : Int32 → Mem → Prop), (∀ (v3 : Int32) (μ : Mem), k v3 μ → Rn K G 5 72 [] [] μ 0 0) → ∀ (n : Nat) (l3 : Int32) (μ : Mem), wC_recountStuck_10 l2 k n l3 μ → Rn K G 5 10 [(0, .inr (.inl (some 0))), (1, .inr (.inl (some 3))), (2, .inl l2), (3, .inl l3)] [] μ 0 0 := by
    intro l2 k hk n
    induction n with
    | zero => intro l3 μ h; exact h.elim
    | succ n ih =>
      intro l3 μ h
      unfold wC_recountStuck_10 at h
      refine r_iload_n (pc := 10) C d_C_recountStuck_10 rfl 3 rfl ?_
      refine r_iload_n (pc := 11) C d_C_recountStuck_11 rfl 2 rfl ?_
      refine r_icmp_ge (tgt := 72) (pc := 12) C d_C_recountStuck_12 (by decide) ?_ ?_
      · intro hc; replace h := h.1 hc
        refine r_sub [] rfl ?_
        exact hk l3 μ h
      · intro hc; replace h := h.2 hc
        refine r_aload_n (pc := 15) C d_C_recountStuck_15 rfl 1 rfl ?_
        refine r_iload_n (pc := 16) C d_C_recountStuck_16 rfl 3 rfl ?_
        obtain ⟨b1, h⟩ := h
        refine r_aald (pc := 17) C (lay_A hg rfl) b1 d_C_recountStuck_17 ?_
        intro e2 he2; replace h := h e2 he2
        refine r_astore (pc := 18) (lv' := [(0, .inr (.inl (some 0))), (1, .inr (.inl (some 3))), (2, .inl l2), (3, .inl l3)]) C d_C_recountStuck_18 (by decide) rfl ?_
        refine r_aload (pc := 20) C d_C_recountStuck_20 0 rfl ?_
        refine r_ifnull (tgt := 66) (pc := 22) C d_C_recountStuck_22 (by decide) ?_ ?_
        · intro h0; subst h0; replace h := h.1 rfl
          refine r_iinc (pc := 66) (v := 1) (lv' := [(4, .inr (.inl none)), (0, .inr (.inl (some 0))), (1, .inr (.inl (some 3))), (2, .inl l2)]) C d_C_recountStuck_66 4 rfl (by decide) (by decide) rfl ?_
          refine r_goto (tgt := 10) (pc := 69) C d_C_recountStuck_69 (by decide) ?_
          refine r_sub [2, 3, 4, 0] rfl ?_
          exact ih (l3 + 1) μ h
        · intro y3 h0; subst h0; replace h := h.2 y3 rfl
          refine r_aload (pc := 25) C d_C_recountStuck_25 0 rfl ?_
          obtain ⟨o4, h⟩ := h
          refine r_getI (pc := 27) (ci := 5) C rfl 5 (by decide) (k_472 C.w) rfl (ok_O o4) d_C_recountStuck_27 ?_
          refine r_iconst (pc := 30) C d_C_recountStuck_30 (v := 3) (by decide) ?_
          refine r_icmp_eq (tgt := 37) (pc := 31) C d_C_recountStuck_31 (by decide) ?_ ?_
          · intro hc; replace h := h.1 hc
            refine r_aload (pc := 37) C d_C_recountStuck_37 0 rfl ?_
            refine r_aload_n (pc := 39) C d_C_recountStuck_39 rfl 1 rfl ?_
            refine r_aload (pc := 40) C d_C_recountStuck_40 0 rfl ?_
            refine r_cVi (pc := 42) (a' := 0) (b' := 0) (As := [.inr (.inl (some y3))]) (ci := 0) C (c_C_countHolders C.s hg h) o_C_countHolders rfl (lay_O hg rfl) (k_302 C.w) rfl ⟨by decide, by decide, by decide, by decide⟩ rfl rfl (Nat.le_of_ble_eq_true rfl) d_C_recountStuck_42 rfl ?_
            intro r6 μ5 h
            refine r_iconst (pc := 45) C d_C_recountStuck_45 (v := 3) (by decide) ?_
            refine r_min (pc := 46) C (k_210 C.w) (x_minS C.w) (x_minI C.w) (x_minC C.w) ⟨by decide, Nat.le_of_ble_eq_true rfl, by decide, by decide⟩ d_C_recountStuck_46 ?_
            obtain ⟨o7, h⟩ := h
            refine r_putI (pc := 49) (ci := 5) C rfl 5 (by decide) (k_472 C.w) rfl rfl p_I (ok_O o7) d_C_recountStuck_49 ?_
            intro μ8 eμ8; replace h := h μ8 eμ8
            refine r_aload (pc := 52) C d_C_recountStuck_52 0 rfl ?_
            refine r_getI (pc := 54) (ci := 5) C rfl 5 (by decide) (k_472 C.w) rfl (ok_O (ok_s eμ8 o7)) d_C_recountStuck_54 ?_
            refine r_if_ne (tgt := 66) (pc := 57) C d_C_recountStuck_57 (by decide) ?_ ?_
            · intro hc; replace h := h.2 hc
              refine r_iinc (pc := 66) (v := 1) (lv' := [(4, .inr (.inl (some y3))), (0, .inr (.inl (some 0))), (1, .inr (.inl (some 3))), (2, .inl l2)]) C d_C_recountStuck_66 4 rfl (by decide) (by decide) rfl ?_
              refine r_goto (tgt := 10) (pc := 69) C d_C_recountStuck_69 (by decide) ?_
              refine r_sub [2, 3, 4, 0] rfl ?_
              exact ih (l3 + 1) μ8 h
            · intro hc; replace h := h.1 hc
              refine r_aload_n (pc := 60) C d_C_recountStuck_60 rfl 1 rfl ?_
              refine r_aload (pc := 61) C d_C_recountStuck_61 0 rfl ?_
              refine r_cVv (pc := 63) (a' := 0) (b' := 0) (As := [.inr (.inl (some y3))]) (ci := 0) C (c_C_letGo C.s hg h) o_C_letGo rfl (lay_O hg rfl) (k_153 C.w) rfl ⟨by decide, by decide, by decide, by decide⟩ rfl rfl (Nat.le_of_ble_eq_true rfl) d_C_recountStuck_63 rfl ?_
              intro μ9 h
              refine r_iinc (pc := 66) (v := 1) (lv' := [(4, .inr (.inl (some y3))), (0, .inr (.inl (some 0))), (1, .inr (.inl (some 3))), (2, .inl l2)]) C d_C_recountStuck_66 4 rfl (by decide) (by decide) rfl ?_
              refine r_goto (tgt := 10) (pc := 69) C d_C_recountStuck_69 (by decide) ?_
              refine r_sub [2, 3, 4, 0] rfl ?_
              exact ih (l3 + 1) μ9 h
          · intro hc; replace h := h.2 hc
            refine r_goto (tgt := 66) (pc := 34) C d_C_recountStuck_34 (by decide) ?_
            refine r_iinc (pc := 66) (v := 1) (lv' := [(4, .inr (.inl (some y3))), (0, .inr (.inl (some 0))), (1, .inr (.inl (some 3))), (2, .inl l2)]) C d_C_recountStuck_66 4 rfl (by decide) (by decide) rfl ?_
            refine r_goto (tgt := 10) (pc := 69) C d_C_recountStuck_69 (by decide) ?_
            refine r_sub [2, 3, 4, 0] rfl ?_
            exact ih (l3 + 1) μ h
  unfold wC_recountStuck at h
  refine r_aload_n (pc := 0) C d_C_recountStuck_0 rfl 0 rfl ?_
  refine r_getR (pc := 1) (ci := 0) C rfl 2 (by decide) (k_108 C.w) rfl (lay_O hg rfl) d_C_recountStuck_1 ?_
  refine r_astore_n (pc := 4) (lv' := [(0, .inr (.inl (some 0)))]) C d_C_recountStuck_4 rfl (by decide) rfl ?_
  refine r_aload_n (pc := 5) C d_C_recountStuck_5 rfl 0 rfl ?_
  refine r_alenQ (pc := 6) (v := 128) C (lay_A hg rfl) (by decide) d_C_recountStuck_6 ?_
  refine r_istore_n (pc := 7) (lv' := [(1, .inr (.inl (some 3))), (0, .inr (.inl (some 0)))]) C d_C_recountStuck_7 rfl (by decide) rfl ?_
  refine r_iconst (pc := 8) C d_C_recountStuck_8 (v := 0) (by decide) ?_
  refine r_istore_n (pc := 9) (lv' := [(2, .inl 128), (1, .inr (.inl (some 3))), (0, .inr (.inl (some 0)))]) C d_C_recountStuck_9 rfl (by decide) rfl ?_
  obtain ⟨n12, h⟩ := h
  refine r_sub [3, 2, 1, 0] rfl ?_
  refine L_10 128 _ ?_ n12 0 μ h
  intro v11 μ10 h
  exact r_vret (pc := 72) C Q d_C_recountStuck_72 (by decide) (by decide) h
theorem c_C_whitenAll {l : Launch} (hl : l.stackTraces = false) {G : Gl} (hg : gf G = true) {post : Mem → Prop} {μ : Mem} (h : wC_whitenAll post μ) : Ct l G i_C_whitenAll [.inr (.inl (some 0))] μ (poV post) noX := by
  refine ct_of hl (by decide) (Nat.le_of_ble_eq_true rfl) ?_
  intro K hKl C Q hE
  clear hl hKl
  replace C : Cx K G prog_1_method_41_code "LineCollector" 5 { frames := 0, cells := 0, slots := 0, locals := 0 } := C
  replace Q : Cq K G { frames := 0, cells := 0, slots := 0, locals := 0 } (none) (poV post) noX := Q
  show Rn K G 5 0 [(0, .inr (.inl (some 0)))] [] μ 0 0
  have L_10 : ∀ (l2 : Int32) (k : Int32 → Mem → Prop), (∀ (v3 : Int32) (μ : Mem), k v3 μ → Rn K G 5 37 [] [] μ 0 0) → ∀ (n : Nat) (l3 : Int32) (μ : Mem), wC_whitenAll_10 l2 k n l3 μ → Rn K G 5 10 [(1, .inr (.inl (some 3))), (2, .inl l2), (3, .inl l3)] [] μ 0 0 := by
    intro l2 k hk n
    induction n with
    | zero => intro l3 μ h; exact h.elim
    | succ n ih =>
      intro l3 μ h
      unfold wC_whitenAll_10 at h
      refine r_iload_n (pc := 10) C d_C_whitenAll_10 rfl 2 rfl ?_
      refine r_iload_n (pc := 11) C d_C_whitenAll_11 rfl 1 rfl ?_
      refine r_icmp_ge (tgt := 37) (pc := 12) C d_C_whitenAll_12 (by decide) ?_ ?_
      · intro hc; replace h := h.1 hc
        refine r_sub [] rfl ?_
        exact hk l3 μ h
      · intro hc; replace h := h.2 hc
        refine r_aload_n (pc := 15) C d_C_whitenAll_15 rfl 0 rfl ?_
        refine r_iload_n (pc := 16) C d_C_whitenAll_16 rfl 2 rfl ?_
        obtain ⟨b1, h⟩ := h
        refine r_aald (pc := 17) C (lay_A hg rfl) b1 d_C_whitenAll_17 ?_
        intro e2 he2; replace h := h e2 he2
        refine r_astore (pc := 18) (lv' := [(1, .inr (.inl (some 3))), (2, .inl l2), (3, .inl l3)]) C d_C_whitenAll_18 (by decide) rfl ?_
        refine r_aload (pc := 20) C d_C_whitenAll_20 0 rfl ?_
        refine r_ifnull (tgt := 31) (pc := 22) C d_C_whitenAll_22 (by decide) ?_ ?_
        · intro h0; subst h0; replace h := h.1 rfl
          refine r_iinc (pc := 31) (v := 1) (lv' := [(4, .inr (.inl none)), (1, .inr (.inl (some 3))), (2, .inl l2)]) C d_C_whitenAll_31 3 rfl (by decide) (by decide) rfl ?_
          refine r_goto (tgt := 10) (pc := 34) C d_C_whitenAll_34 (by decide) ?_
          refine r_sub [2, 3, 0] rfl ?_
          exact ih (l3 + 1) μ h
        · intro y3 h0; subst h0; replace h := h.2 y3 rfl
          refine r_aload (pc := 25) C d_C_whitenAll_25 0 rfl ?_
          refine r_iconst (pc := 27) C d_C_whitenAll_27 (v := 0) (by decide) ?_
          obtain ⟨o4, h⟩ := h
          refine r_putI (pc := 28) (ci := 5) C rfl 6 (by decide) (k_474 C.w) rfl rfl p_I (ok_O o4) d_C_whitenAll_28 ?_
          intro μ5 eμ5; replace h := h μ5 eμ5
          refine r_iinc (pc := 31) (v := 1) (lv' := [(4, .inr (.inl (some y3))), (1, .inr (.inl (some 3))), (2, .inl l2)]) C d_C_whitenAll_31 3 rfl (by decide) (by decide) rfl ?_
          refine r_goto (tgt := 10) (pc := 34) C d_C_whitenAll_34 (by decide) ?_
          refine r_sub [2, 3, 0] rfl ?_
          exact ih (l3 + 1) μ5 h
  unfold wC_whitenAll at h
  refine r_aload_n (pc := 0) C d_C_whitenAll_0 rfl 0 rfl ?_
  refine r_getR (pc := 1) (ci := 0) C rfl 2 (by decide) (k_108 C.w) rfl (lay_O hg rfl) d_C_whitenAll_1 ?_
  refine r_astore_n (pc := 4) (lv' := [(0, .inr (.inl (some 0)))]) C d_C_whitenAll_4 rfl (by decide) rfl ?_
  refine r_aload_n (pc := 5) C d_C_whitenAll_5 rfl 0 rfl ?_
  refine r_alenQ (pc := 6) (v := 128) C (lay_A hg rfl) (by decide) d_C_whitenAll_6 ?_
  refine r_istore_n (pc := 7) (lv' := [(1, .inr (.inl (some 3))), (0, .inr (.inl (some 0)))]) C d_C_whitenAll_7 rfl (by decide) rfl ?_
  refine r_iconst (pc := 8) C d_C_whitenAll_8 (v := 0) (by decide) ?_
  refine r_istore_n (pc := 9) (lv' := [(2, .inl 128), (1, .inr (.inl (some 3))), (0, .inr (.inl (some 0)))]) C d_C_whitenAll_9 rfl (by decide) rfl ?_
  obtain ⟨n8, h⟩ := h
  refine r_sub [2, 1, 0] rfl ?_
  refine L_10 128 _ ?_ n8 0 μ h
  intro v7 μ6 h
  exact r_vret (pc := 37) C Q d_C_whitenAll_37 (by decide) (by decide) h
theorem c_P_isUsed {l : Launch} (hl : l.stackTraces = false) {G : Gl} (hg : gf G = true) {a1 : Int32} {post : Int32 → Mem → Prop} {μ : Mem} (h : wP_isUsed a1 post μ) : Ct l G i_P_isUsed [.inr (.inl (some 4)), .inl a1] μ (poI post) noX := by
  refine ct_of hl (by decide) (Nat.le_of_ble_eq_true rfl) ?_
  intro K hKl C Q hE
  clear hl hKl
  replace C : Cx K G prog_4_method_2_code "LineCollector$Places" 2 { frames := 0, cells := 0, slots := 0, locals := 0 } := C
  replace Q : Cq K G { frames := 0, cells := 0, slots := 0, locals := 0 } (some .boolean) (poI post) noX := Q
  show Rn K G 2 0 [(0, .inr (.inl (some 4))), (1, .inl a1)] [] μ 0 0
  unfold wP_isUsed at h
  refine r_aload_n (pc := 0) C d_P_isUsed_0 rfl 0 rfl ?_
  refine r_getR (pc := 1) (ci := 1) C rfl 0 (by decide) (k_51 C.w) rfl (lay_O hg rfl) d_P_isUsed_1 ?_
  refine r_iload_n (pc := 4) C d_P_isUsed_4 rfl 1 rfl ?_
  obtain ⟨b1, h⟩ := h
  refine r_iald (pc := 5) C (lay_A hg rfl) b1 d_P_isUsed_5 ?_
  refine r_if_gt (tgt := 18) (pc := 6) C d_P_isUsed_6 (by decide) ?_ ?_
  · intro hc; replace h := h.1 hc
    refine r_iconst (pc := 18) C d_P_isUsed_18 (v := 1) (by decide) ?_
    refine r_goto (tgt := 23) (pc := 19) C d_P_isUsed_19 (by decide) ?_
    exact r_zret (pc := 23) C Q (Or.inr rfl) d_P_isUsed_23 (by decide) (by decide) h
  · intro hc; replace h := h.2 hc
    refine r_aload_n (pc := 9) C d_P_isUsed_9 rfl 0 rfl ?_
    refine r_getR (pc := 10) (ci := 1) C rfl 1 (by decide) (k_52 C.w) rfl (lay_O hg rfl) d_P_isUsed_10 ?_
    refine r_iload_n (pc := 13) C d_P_isUsed_13 rfl 1 rfl ?_
    refine r_zald (pc := 14) C (lay_A hg rfl) b1 d_P_isUsed_14 ?_
    refine r_if_eq (tgt := 22) (pc := 15) C d_P_isUsed_15 (by decide) ?_ ?_
    · intro hc; replace h := h.1 hc
      refine r_iconst (pc := 22) C d_P_isUsed_22 (v := 0) (by decide) ?_
      exact r_zret (pc := 23) C Q (Or.inl rfl) d_P_isUsed_23 (by decide) (by decide) h
    · intro hc; replace h := h.2 hc
      refine r_iconst (pc := 18) C d_P_isUsed_18 (v := 1) (by decide) ?_
      refine r_goto (tgt := 23) (pc := 19) C d_P_isUsed_19 (by decide) ?_
      exact r_zret (pc := 23) C Q (Or.inr rfl) d_P_isUsed_23 (by decide) (by decide) h
theorem c_P_usedLines {l : Launch} (hl : l.stackTraces = false) {G : Gl} (hg : gf G = true) {a1 : Int32} {post : Int32 → Mem → Prop} {μ : Mem} (h : wP_usedLines a1 post μ) : Ct l G i_P_usedLines [.inr (.inl (some 4)), .inl a1] μ (poI post) noX := by
  refine ct_of hl (by decide) (Nat.le_of_ble_eq_true rfl) ?_
  intro K hKl C Q hE
  clear hl hKl
  replace C : Cx K G prog_4_method_14_code "LineCollector$Places" 4 { frames := 1, cells := 0, slots := 0, locals := 21 } := C
  replace Q : Cq K G { frames := 1, cells := 0, slots := 0, locals := 21 } (some .int) (poI post) noX := Q
  show Rn K G 4 0 [(0, .inr (.inl (some 4))), (1, .inl a1)] [] μ 0 0
  have L_7 : ∀ (l1 : Int32) (k : Int32 → Int32 → Mem → Prop), (∀ (v2 : Int32) (v3 : Int32) (μ : Mem), k v2 v3 μ → Rn K G 4 34 [(2, .inl v2)] [] μ 0 0) → ∀ (n : Nat) (l2 : Int32) (l3 : Int32) (μ : Mem), wP_usedLines_7 l1 k n l2 l3 μ → Rn K G 4 7 [(0, .inr (.inl (some 4))), (1, .inl l1), (2, .inl l2), (3, .inl l3)] [] μ 0 0 := by
    intro l1 k hk n
    induction n with
    | zero => intro l2 l3 μ h; exact h.elim
    | succ n ih =>
      intro l2 l3 μ h
      unfold wP_usedLines_7 at h
      refine r_iload_n (pc := 7) C d_P_usedLines_7 rfl 3 rfl ?_
      refine r_iload_n (pc := 8) C d_P_usedLines_8 rfl 1 rfl ?_
      refine r_iconst (pc := 9) C d_P_usedLines_9 (v := 1) (by decide) ?_
      refine r_iadd (pc := 10) C d_P_usedLines_10 ?_
      refine r_bipush (pc := 11) C d_P_usedLines_11 (v := 8) (by decide) ?_
      refine r_imul (pc := 13) C d_P_usedLines_13 ?_
      refine r_icmp_ge (tgt := 34) (pc := 14) C d_P_usedLines_14 (by decide) ?_ ?_
      · intro hc; replace h := h.1 hc
        refine r_sub [2] rfl ?_
        exact hk l2 l3 μ h
      · intro hc; replace h := h.2 hc
        refine r_aload_n (pc := 17) C d_P_usedLines_17 rfl 0 rfl ?_
        refine r_iload_n (pc := 18) C d_P_usedLines_18 rfl 3 rfl ?_
        refine r_cVi (pc := 19) (a' := 0) (b' := 0) (As := [.inl l3]) (ci := 1) C (c_P_isUsed C.s hg h) o_P_isUsed rfl (lay_O hg rfl) (k_330 C.w) rfl ⟨by decide, by decide, by decide, by decide⟩ rfl rfl (Nat.le_of_ble_eq_true rfl) d_P_usedLines_19 rfl ?_
        intro r2 μ1 h
        refine r_if_eq (tgt := 28) (pc := 22) C d_P_usedLines_22 (by decide) ?_ ?_
        · intro hc; replace h := h.1 hc
          refine r_iinc (pc := 28) (v := 1) (lv' := [(0, .inr (.inl (some 4))), (1, .inl l1), (2, .inl l2)]) C d_P_usedLines_28 3 rfl (by decide) (by decide) rfl ?_
          refine r_goto (tgt := 7) (pc := 31) C d_P_usedLines_31 (by decide) ?_
          refine r_sub [1, 2, 3, 0] rfl ?_
          exact ih l2 (l3 + 1) μ1 h
        · intro hc; replace h := h.2 hc
          refine r_iinc (pc := 25) (v := 1) (lv' := [(0, .inr (.inl (some 4))), (1, .inl l1), (3, .inl l3)]) C d_P_usedLines_25 2 rfl (by decide) (by decide) rfl ?_
          refine r_iinc (pc := 28) (v := 1) (lv' := [(2, .inl (l2 + 1)), (0, .inr (.inl (some 4))), (1, .inl l1)]) C d_P_usedLines_28 3 rfl (by decide) (by decide) rfl ?_
          refine r_goto (tgt := 7) (pc := 31) C d_P_usedLines_31 (by decide) ?_
          refine r_sub [2, 3, 1, 0] rfl ?_
          exact ih (l2 + 1) (l3 + 1) μ1 h
  unfold wP_usedLines at h
  refine r_iconst (pc := 0) C d_P_usedLines_0 (v := 0) (by decide) ?_
  refine r_istore_n (pc := 1) (lv' := [(0, .inr (.inl (some 4))), (1, .inl a1)]) C d_P_usedLines_1 rfl (by decide) rfl ?_
  refine r_iload_n (pc := 2) C d_P_usedLines_2 rfl 2 rfl ?_
  refine r_bipush (pc := 3) C d_P_usedLines_3 (v := 8) (by decide) ?_
  refine r_imul (pc := 5) C d_P_usedLines_5 ?_
  refine r_istore_n (pc := 6) (lv' := [(2, .inl 0), (0, .inr (.inl (some 4))), (1, .inl a1)]) C d_P_usedLines_6 rfl (by decide) rfl ?_
  obtain ⟨n6, h⟩ := h
  refine r_sub [2, 3, 1, 0] rfl ?_
  refine L_7 a1 _ ?_ n6 0 (a1 * 8) μ h
  intro v4 v5 μ3 h
  refine r_iload_n (pc := 34) C d_P_usedLines_34 rfl 0 rfl ?_
  exact r_iret (pc := 35) C Q d_P_usedLines_35 (by decide) (by decide) h
theorem c_P_sparsestBlock {l : Launch} (hl : l.stackTraces = false) {G : Gl} (hg : gf G = true) {post : Int32 → Mem → Prop} {μ : Mem} (h : wP_sparsestBlock post μ) : Ct l G i_P_sparsestBlock [.inr (.inl (some 4))] μ (poI post) noX := by
  refine ct_of hl (by decide) (Nat.le_of_ble_eq_true rfl) ?_
  intro K hKl C Q hE
  clear hl hKl
  replace C : Cx K G prog_4_method_13_code "LineCollector$Places" 5 { frames := 2, cells := 0, slots := 0, locals := 44 } := C
  replace Q : Cq K G { frames := 2, cells := 0, slots := 0, locals := 44 } (some .int) (poI post) noX := Q
  show Rn K G 5 0 [(0, .inr (.inl (some 4)))] [] μ 0 0
  have L_6 : ∀ (k : Int32 → Int32 → Int32 → Mem → Prop), (∀ (v1 : Int32) (v2 : Int32) (v3 : Int32) (μ : Mem), k v1 v2 v3 μ → Rn K G 5 40 [(1, .inl v1)] [] μ 0 0) → ∀ (n : Nat) (l1 : Int32) (l2 : Int32) (l3 : Int32) (μ : Mem), wP_sparsestBlock_6 k n l1 l2 l3 μ → Rn K G 5 6 [(0, .inr (.inl (some 4))), (1, .inl l1), (2, .inl l2), (3, .inl l3)] [] μ 0 0 := by
    intro k hk n
    induction n with
    | zero => intro l1 l2 l3 μ h; exact h.elim
    | succ n ih =>
      intro l1 l2 l3 μ h
      unfold wP_sparsestBlock_6 at h
      refine r_iload_n (pc := 6) C d_P_sparsestBlock_6 rfl 3 rfl ?_
      refine r_iconst (pc := 7) C d_P_sparsestBlock_7 (v := 4) (by decide) ?_
      refine r_icmp_ge (tgt := 40) (pc := 8) C d_P_sparsestBlock_8 (by decide) ?_ ?_
      · intro hc; replace h := h.1 hc
        refine r_sub [1] rfl ?_
        exact hk l1 l2 l3 μ h
      · intro hc; replace h := h.2 hc
        refine r_aload_n (pc := 11) C d_P_sparsestBlock_11 rfl 0 rfl ?_
        refine r_iload_n (pc := 12) C d_P_sparsestBlock_12 rfl 3 rfl ?_
        refine r_cVi (pc := 13) (a' := 0) (b' := 0) (As := [.inl l3]) (ci := 1) C (c_P_usedLines C.s hg h) o_P_usedLines rfl (lay_O hg rfl) (k_326 C.w) rfl ⟨by decide, by decide, by decide, by decide⟩ rfl rfl (Nat.le_of_ble_eq_true rfl) d_P_sparsestBlock_13 rfl ?_
        intro r2 μ1 h
        refine r_istore (pc := 16) (lv' := [(0, .inr (.inl (some 4))), (1, .inl l1), (2, .inl l2), (3, .inl l3)]) C d_P_sparsestBlock_16 (by decide) rfl ?_
        refine r_iload (pc := 18) C d_P_sparsestBlock_18 0 rfl ?_
        refine r_if_le (tgt := 34) (pc := 20) C d_P_sparsestBlock_20 (by decide) ?_ ?_
        · intro hc; replace h := h.1 hc
          refine r_iinc (pc := 34) (v := 1) (lv' := [(4, .inl r2), (0, .inr (.inl (some 4))), (1, .inl l1), (2, .inl l2)]) C d_P_sparsestBlock_34 4 rfl (by decide) (by decide) rfl ?_
          refine r_goto (tgt := 6) (pc := 37) C d_P_sparsestBlock_37 (by decide) ?_
          refine r_sub [2, 3, 4, 0] rfl ?_
          exact ih l1 l2 (l3 + 1) μ1 h
        · intro hc; replace h := h.2 hc
          refine r_iload (pc := 23) C d_P_sparsestBlock_23 0 rfl ?_
          refine r_iload_n (pc := 25) C d_P_sparsestBlock_25 rfl 3 rfl ?_
          refine r_icmp_ge (tgt := 34) (pc := 26) C d_P_sparsestBlock_26 (by decide) ?_ ?_
          · intro hc; replace h := h.1 hc
            refine r_iinc (pc := 34) (v := 1) (lv' := [(4, .inl r2), (0, .inr (.inl (some 4))), (1, .inl l1), (2, .inl l2)]) C d_P_sparsestBlock_34 4 rfl (by decide) (by decide) rfl ?_
            refine r_goto (tgt := 6) (pc := 37) C d_P_sparsestBlock_37 (by decide) ?_
            refine r_sub [2, 3, 4, 0] rfl ?_
            exact ih l1 l2 (l3 + 1) μ1 h
          · intro hc; replace h := h.2 hc
            refine r_iload_n (pc := 29) C d_P_sparsestBlock_29 rfl 4 rfl ?_
            refine r_istore_n (pc := 30) (lv' := [(4, .inl r2), (0, .inr (.inl (some 4))), (2, .inl l2), (3, .inl l3)]) C d_P_sparsestBlock_30 rfl (by decide) rfl ?_
            refine r_iload (pc := 31) C d_P_sparsestBlock_31 1 rfl ?_
            refine r_istore_n (pc := 33) (lv' := [(1, .inl l3), (4, .inl r2), (0, .inr (.inl (some 4))), (3, .inl l3)]) C d_P_sparsestBlock_33 rfl (by decide) rfl ?_
            refine r_iinc (pc := 34) (v := 1) (lv' := [(2, .inl r2), (1, .inl l3), (4, .inl r2), (0, .inr (.inl (some 4)))]) C d_P_sparsestBlock_34 4 rfl (by decide) (by decide) rfl ?_
            refine r_goto (tgt := 6) (pc := 37) C d_P_sparsestBlock_37 (by decide) ?_
            refine r_sub [4, 2, 1, 0] rfl ?_
            exact ih l3 r2 (l3 + 1) μ1 h
  unfold wP_sparsestBlock at h
  refine r_iconst (pc := 0) C d_P_sparsestBlock_0 (v := (-1)) (by decide) ?_
  refine r_istore_n (pc := 1) (lv' := [(0, .inr (.inl (some 4)))]) C d_P_sparsestBlock_1 rfl (by decide) rfl ?_
  refine r_iconst (pc := 2) C d_P_sparsestBlock_2 (v := 4) (by decide) ?_
  refine r_istore_n (pc := 3) (lv' := [(1, .inl (-1)), (0, .inr (.inl (some 4)))]) C d_P_sparsestBlock_3 rfl (by decide) rfl ?_
  refine r_iconst (pc := 4) C d_P_sparsestBlock_4 (v := 0) (by decide) ?_
  refine r_istore_n (pc := 5) (lv' := [(2, .inl 4), (1, .inl (-1)), (0, .inr (.inl (some 4)))]) C d_P_sparsestBlock_5 rfl (by decide) rfl ?_
  obtain ⟨n7, h⟩ := h
  refine r_sub [3, 2, 1, 0] rfl ?_
  refine L_6 _ ?_ n7 (-1) 4 0 μ h
  intro v4 v5 v6 μ3 h
  refine r_iload_n (pc := 40) C d_P_sparsestBlock_40 rfl 0 rfl ?_
  exact r_iret (pc := 41) C Q d_P_sparsestBlock_41 (by decide) (by decide) h
theorem c_P_shut {l : Launch} (hl : l.stackTraces = false) {G : Gl} (hg : gf G = true) {a1 : Int32} {post : Mem → Prop} {μ : Mem} (h : wP_shut a1 post μ) : Ct l G i_P_shut [.inr (.inl (some 4)), .inl a1] μ (poV post) noX := by
  refine ct_of hl (by decide) (Nat.le_of_ble_eq_true rfl) ?_
  intro K hKl C Q hE
  clear hl hKl
  replace C : Cx K G prog_4_method_9_code "LineCollector$Places" 2 { frames := 0, cells := 0, slots := 0, locals := 0 } := C
  replace Q : Cq K G { frames := 0, cells := 0, slots := 0, locals := 0 } (none) (poV post) noX := Q
  show Rn K G 2 0 [(0, .inr (.inl (some 4))), (1, .inl a1)] [] μ 0 0
  unfold wP_shut at h
  refine r_aload_n (pc := 0) C d_P_shut_0 rfl 0 rfl ?_
  refine r_iload_n (pc := 1) C d_P_shut_1 rfl 1 rfl ?_
  refine r_putI (pc := 2) (ci := 1) C rfl 4 (by decide) (k_55 C.w) rfl rfl p_I (lay_O hg rfl) d_P_shut_2 ?_
  intro μ1 eμ1; replace h := h μ1 eμ1
  exact r_vret (pc := 5) C Q d_P_shut_5 (by decide) (by decide) h
theorem c_C_clearSparsestBlock {l : Launch} (hl : l.stackTraces = false) {G : Gl} (hg : gf G = true) {post : Mem → Prop} {μ : Mem} (h : wC_clearSparsestBlock post μ) : Ct l G i_C_clearSparsestBlock [.inr (.inl (some 0))] μ (poV post) noX := by
  refine ct_of hl (by decide) (Nat.le_of_ble_eq_true rfl) ?_
  intro K hKl C Q hE
  clear hl hKl
  replace C : Cx K G prog_1_method_42_code "LineCollector" 4 { frames := 4, cells := 0, slots := 0, locals := 88 } := C
  replace Q : Cq K G { frames := 4, cells := 0, slots := 0, locals := 88 } (none) (poV post) noX := Q
  show Rn K G 4 0 [(0, .inr (.inl (some 0)))] [] μ 0 0
  have L_31 : ∀ (l1 : Int32) (k : Int32 → Mem → Prop), (∀ (v2 : Int32) (μ : Mem), k v2 μ → Rn K G 4 75 [(0, .inr (.inl (some 0)))] [] μ 0 0) → ∀ (n : Nat) (l2 : Int32) (μ : Mem), wC_clearSparsestBlock_31 l1 k n l2 μ → Rn K G 4 31 [(0, .inr (.inl (some 0))), (1, .inl l1), (2, .inl l2)] [] μ 0 0 := by
    intro l1 k hk n
    induction n with
    | zero => intro l2 μ h; exact h.elim
    | succ n ih =>
      intro l2 μ h
      unfold wC_clearSparsestBlock_31 at h
      refine r_iload_n (pc := 31) C d_C_clearSparsestBlock_31 rfl 2 rfl ?_
      refine r_bipush (pc := 32) C d_C_clearSparsestBlock_32 (v := 32) (by decide) ?_
      refine r_icmp_ge (tgt := 75) (pc := 34) C d_C_clearSparsestBlock_34 (by decide) ?_ ?_
      · intro hc; replace h := h.1 hc
        refine r_sub [0] rfl ?_
        exact hk l2 μ h
      · intro hc; replace h := h.2 hc
        refine r_aload_n (pc := 37) C d_C_clearSparsestBlock_37 rfl 0 rfl ?_
        refine r_getR (pc := 38) (ci := 0) C rfl 2 (by decide) (k_108 C.w) rfl (lay_O hg rfl) d_C_clearSparsestBlock_38 ?_
        refine r_iload_n (pc := 41) C d_C_clearSparsestBlock_41 rfl 1 rfl ?_
        refine r_bipush (pc := 42) C d_C_clearSparsestBlock_42 (v := 32) (by decide) ?_
        refine r_imul (pc := 44) C d_C_clearSparsestBlock_44 ?_
        refine r_iload_n (pc := 45) C d_C_clearSparsestBlock_45 rfl 2 rfl ?_
        refine r_iadd (pc := 46) C d_C_clearSparsestBlock_46 ?_
        obtain ⟨b5, h⟩ := h
        refine r_aald (pc := 47) C (lay_A hg rfl) b5 d_C_clearSparsestBlock_47 ?_
        intro e6 he6; replace h := h e6 he6
        refine r_astore_n (pc := 48) (lv' := [(0, .inr (.inl (some 0))), (1, .inl l1), (2, .inl l2)]) C d_C_clearSparsestBlock_48 rfl (by decide) rfl ?_
        refine r_aload_n (pc := 49) C d_C_clearSparsestBlock_49 rfl 0 rfl ?_
        refine r_ifnull (tgt := 69) (pc := 50) C d_C_clearSparsestBlock_50 (by decide) ?_ ?_
        · intro h0; subst h0; replace h := h.1 rfl
          refine r_iinc (pc := 69) (v := 1) (lv' := [(3, .inr (.inl none)), (0, .inr (.inl (some 0))), (1, .inl l1)]) C d_C_clearSparsestBlock_69 3 rfl (by decide) (by decide) rfl ?_
          refine r_goto (tgt := 31) (pc := 72) C d_C_clearSparsestBlock_72 (by decide) ?_
          refine r_sub [2, 3, 0] rfl ?_
          exact ih (l2 + 1) μ h
        · intro y7 h0; subst h0; replace h := h.2 y7 rfl
          refine r_aload_n (pc := 53) C d_C_clearSparsestBlock_53 rfl 1 rfl ?_
          refine r_aload_n (pc := 54) C d_C_clearSparsestBlock_54 rfl 0 rfl ?_
          refine r_aload_n (pc := 55) C d_C_clearSparsestBlock_55 rfl 1 rfl ?_
          refine r_getR (pc := 56) (ci := 0) C rfl 3 (by decide) (k_109 C.w) rfl (lay_O hg rfl) d_C_clearSparsestBlock_56 ?_
          refine r_aload_n (pc := 59) C d_C_clearSparsestBlock_59 rfl 0 rfl ?_
          obtain ⟨o8, h⟩ := h
          refine r_getI (pc := 60) (ci := 5) C rfl 0 (by decide) (k_461 C.w) rfl (ok_O o8) d_C_clearSparsestBlock_60 ?_
          refine r_cVi (pc := 63) (a' := 0) (b' := 0) (As := [.inl (mI μ y7 0)]) (ci := 1) C (c_P_find C.s hg h) o_P_find rfl (lay_O hg rfl) (k_217 C.w) rfl ⟨by decide, by decide, by decide, by decide⟩ rfl rfl (Nat.le_of_ble_eq_true rfl) d_C_clearSparsestBlock_63 rfl ?_
          intro r10 μ9 h
          refine r_cVv (pc := 66) (a' := 0) (b' := 0) (As := [.inr (.inl (some y7)), .inl r10]) (ci := 0) C (c_C_moveTo C.s hg h) o_C_moveTo rfl (lay_O hg rfl) (k_249 C.w) rfl ⟨by decide, by decide, by decide, by decide⟩ rfl rfl (Nat.le_of_ble_eq_true rfl) d_C_clearSparsestBlock_66 rfl ?_
          intro μ11 h
          refine r_iinc (pc := 69) (v := 1) (lv' := [(3, .inr (.inl (some y7))), (0, .inr (.inl (some 0))), (1, .inl l1)]) C d_C_clearSparsestBlock_69 3 rfl (by decide) (by decide) rfl ?_
          refine r_goto (tgt := 31) (pc := 72) C d_C_clearSparsestBlock_72 (by decide) ?_
          refine r_sub [2, 3, 0] rfl ?_
          exact ih (l2 + 1) μ11 h
  unfold wC_clearSparsestBlock at h
  refine r_aload_n (pc := 0) C d_C_clearSparsestBlock_0 rfl 0 rfl ?_
  refine r_getR (pc := 1) (ci := 0) C rfl 3 (by decide) (k_109 C.w) rfl (lay_O hg rfl) d_C_clearSparsestBlock_1 ?_
  refine r_cVi (pc := 4) (a' := 0) (b' := 0) (As := []) (ci := 1) C (c_P_sparsestBlock C.s hg h) o_P_sparsestBlock rfl (lay_O hg rfl) (k_322 C.w) rfl ⟨by decide, by decide, by decide, by decide⟩ rfl rfl (Nat.le_of_ble_eq_true rfl) d_C_clearSparsestBlock_4 rfl ?_
  intro r2 μ1 h
  refine r_istore_n (pc := 7) (lv' := [(0, .inr (.inl (some 0)))]) C d_C_clearSparsestBlock_7 rfl (by decide) rfl ?_
  refine r_iload_n (pc := 8) C d_C_clearSparsestBlock_8 rfl 0 rfl ?_
  refine r_iconst (pc := 9) C d_C_clearSparsestBlock_9 (v := (-1)) (by decide) ?_
  refine r_icmp_ne (tgt := 14) (pc := 10) C d_C_clearSparsestBlock_10 (by decide) ?_ ?_
  · intro hc; replace h := h.2 hc
    refine r_aload_n (pc := 14) C d_C_clearSparsestBlock_14 rfl 1 rfl ?_
    refine r_getR (pc := 15) (ci := 0) C rfl 3 (by decide) (k_109 C.w) rfl (lay_O hg rfl) d_C_clearSparsestBlock_15 ?_
    refine r_cVv (pc := 18) (a' := 0) (b' := 0) (As := []) (ci := 1) C (c_P_close C.s hg h) o_P_close rfl (lay_O hg rfl) (k_181 C.w) rfl ⟨by decide, by decide, by decide, by decide⟩ rfl rfl (Nat.le_of_ble_eq_true rfl) d_C_clearSparsestBlock_18 rfl ?_
    intro μ3 h
    refine r_aload_n (pc := 21) C d_C_clearSparsestBlock_21 rfl 1 rfl ?_
    refine r_getR (pc := 22) (ci := 0) C rfl 3 (by decide) (k_109 C.w) rfl (lay_O hg rfl) d_C_clearSparsestBlock_22 ?_
    refine r_iload_n (pc := 25) C d_C_clearSparsestBlock_25 rfl 0 rfl ?_
    refine r_cVv (pc := 26) (a' := 0) (b' := 0) (As := [.inl r2]) (ci := 1) C (c_P_shut C.s hg h) o_P_shut rfl (lay_O hg rfl) (k_334 C.w) rfl ⟨by decide, by decide, by decide, by decide⟩ rfl rfl (Nat.le_of_ble_eq_true rfl) d_C_clearSparsestBlock_26 rfl ?_
    intro μ4 h
    refine r_iconst (pc := 29) C d_C_clearSparsestBlock_29 (v := 0) (by decide) ?_
    refine r_istore_n (pc := 30) (lv' := [(1, .inl r2), (0, .inr (.inl (some 0)))]) C d_C_clearSparsestBlock_30 rfl (by decide) rfl ?_
    obtain ⟨n16, h⟩ := h
    refine r_sub [2, 1, 0] rfl ?_
    refine L_31 r2 _ ?_ n16 0 μ4 h
    intro v13 μ12 h
    refine r_aload_n (pc := 75) C d_C_clearSparsestBlock_75 rfl 0 rfl ?_
    refine r_getR (pc := 76) (ci := 0) C rfl 3 (by decide) (k_109 C.w) rfl (lay_O hg rfl) d_C_clearSparsestBlock_76 ?_
    refine r_iconst (pc := 79) C d_C_clearSparsestBlock_79 (v := (-1)) (by decide) ?_
    refine r_cVv (pc := 80) (a' := 0) (b' := 0) (As := [.inl (-1)]) (ci := 1) C (c_P_shut C.s hg h) o_P_shut rfl (lay_O hg rfl) (k_334 C.w) rfl ⟨by decide, by decide, by decide, by decide⟩ rfl rfl (Nat.le_of_ble_eq_true rfl) d_C_clearSparsestBlock_80 rfl ?_
    intro μ14 h
    refine r_aload_n (pc := 83) C d_C_clearSparsestBlock_83 rfl 0 rfl ?_
    refine r_getR (pc := 84) (ci := 0) C rfl 3 (by decide) (k_109 C.w) rfl (lay_O hg rfl) d_C_clearSparsestBlock_84 ?_
    refine r_cVv (pc := 87) (a' := 0) (b' := 0) (As := []) (ci := 1) C (c_P_forgetMovedOut C.s hg h) o_P_forgetMovedOut rfl (lay_O hg rfl) (k_269 C.w) rfl ⟨by decide, by decide, by decide, by decide⟩ rfl rfl (Nat.le_of_ble_eq_true rfl) d_C_clearSparsestBlock_87 rfl ?_
    intro μ15 h
    exact r_vret (pc := 90) C Q d_C_clearSparsestBlock_90 (by decide) (by decide) h
  · intro hc; replace h := h.1 hc
    exact r_vret (pc := 13) C Q d_C_clearSparsestBlock_13 (by decide) (by decide) h
theorem c_C_pause {l : Launch} (hl : l.stackTraces = false) {G : Gl} (hg : gf G = true) {a1 : Int32} {post : Int32 → Mem → Prop} {μ : Mem} (h : wC_pause a1 post μ) : Ct l G i_C_pause [.inr (.inl (some 0)), .inl a1] μ (poI post) noX := by
  refine ct_of hl (by decide) (Nat.le_of_ble_eq_true rfl) ?_
  intro K hKl C Q hE
  clear hl hKl
  replace C : Cx K G prog_1_method_9_code "LineCollector" 3 { frames := 5, cells := 0, slots := 0, locals := 111 } := C
  replace Q : Cq K G { frames := 5, cells := 0, slots := 0, locals := 111 } (some .int) (poI post) noX := Q
  show Rn K G 3 0 [(0, .inr (.inl (some 0))), (1, .inl a1)] [] μ 0 0
  have J_71 : ∀ (l1 : Int32) (l2 : Int32) (μ : Mem), wC_pause_71 l1 l2 post μ → Rn K G 3 71 [(0, .inr (.inl (some 0))), (1, .inl l1), (2, .inl l2)] [] μ 0 0 := by
    intro l1 l2 μ h
    unfold wC_pause_71 at h
    refine r_iload_n (pc := 71) C d_C_pause_71 rfl 1 rfl ?_
    refine r_if_eq (tgt := 86) (pc := 72) C d_C_pause_72 (by decide) ?_ ?_
    · intro hc; replace h := h.1 hc
      refine r_aload_n (pc := 86) C d_C_pause_86 rfl 0 rfl ?_
      refine r_getR (pc := 87) (ci := 0) C rfl 3 (by decide) (k_109 C.w) rfl (lay_O hg rfl) d_C_pause_87 ?_
      refine r_cVv (pc := 90) (a' := 0) (b' := 0) (As := []) (ci := 1) C (c_P_close C.s hg h) o_P_close rfl (lay_O hg rfl) (k_181 C.w) rfl ⟨by decide, by decide, by decide, by decide⟩ rfl rfl (Nat.le_of_ble_eq_true rfl) d_C_pause_90 rfl ?_
      intro μ8 h
      refine r_aload_n (pc := 93) C d_C_pause_93 rfl 0 rfl ?_
      refine r_cVv (pc := 94) (a' := 0) (b' := 0) (As := []) (ci := 0) C (c_C_rememberRoots C.s hg h) o_C_rememberRoots rfl (lay_O hg rfl) (k_342 C.w) rfl ⟨by decide, by decide, by decide, by decide⟩ rfl rfl (Nat.le_of_ble_eq_true rfl) d_C_pause_94 rfl ?_
      intro μ9 h
      refine r_iload_n (pc := 97) C d_C_pause_97 rfl 2 rfl ?_
      exact r_iret (pc := 98) C Q d_C_pause_98 (by decide) (by decide) h
    · intro hc; replace h := h.2 hc
      refine r_aload_n (pc := 75) C d_C_pause_75 rfl 0 rfl ?_
      refine r_getI (pc := 76) (ci := 0) C rfl 7 (by decide) (k_113 C.w) rfl (lay_O hg rfl) d_C_pause_76 ?_
      refine r_if_ne (tgt := 86) (pc := 79) C d_C_pause_79 (by decide) ?_ ?_
      · intro hc; replace h := h.2 hc
        refine r_aload_n (pc := 86) C d_C_pause_86 rfl 0 rfl ?_
        refine r_getR (pc := 87) (ci := 0) C rfl 3 (by decide) (k_109 C.w) rfl (lay_O hg rfl) d_C_pause_87 ?_
        refine r_cVv (pc := 90) (a' := 0) (b' := 0) (As := []) (ci := 1) C (c_P_close C.s hg h) o_P_close rfl (lay_O hg rfl) (k_181 C.w) rfl ⟨by decide, by decide, by decide, by decide⟩ rfl rfl (Nat.le_of_ble_eq_true rfl) d_C_pause_90 rfl ?_
        intro μ10 h
        refine r_aload_n (pc := 93) C d_C_pause_93 rfl 0 rfl ?_
        refine r_cVv (pc := 94) (a' := 0) (b' := 0) (As := []) (ci := 0) C (c_C_rememberRoots C.s hg h) o_C_rememberRoots rfl (lay_O hg rfl) (k_342 C.w) rfl ⟨by decide, by decide, by decide, by decide⟩ rfl rfl (Nat.le_of_ble_eq_true rfl) d_C_pause_94 rfl ?_
        intro μ11 h
        refine r_iload_n (pc := 97) C d_C_pause_97 rfl 2 rfl ?_
        exact r_iret (pc := 98) C Q d_C_pause_98 (by decide) (by decide) h
      · intro hc; replace h := h.1 hc
        refine r_aload_n (pc := 82) C d_C_pause_82 rfl 0 rfl ?_
        refine r_cVv (pc := 83) (a' := 0) (b' := 0) (As := []) (ci := 0) C (c_C_beginTrace C.s hg h) o_C_beginTrace rfl (lay_O hg rfl) (k_338 C.w) rfl ⟨by decide, by decide, by decide, by decide⟩ rfl rfl (Nat.le_of_ble_eq_true rfl) d_C_pause_83 rfl ?_
        intro μ12 h
        refine r_aload_n (pc := 86) C d_C_pause_86 rfl 0 rfl ?_
        refine r_getR (pc := 87) (ci := 0) C rfl 3 (by decide) (k_109 C.w) rfl (lay_O hg rfl) d_C_pause_87 ?_
        refine r_cVv (pc := 90) (a' := 0) (b' := 0) (As := []) (ci := 1) C (c_P_close C.s hg h) o_P_close rfl (lay_O hg rfl) (k_181 C.w) rfl ⟨by decide, by decide, by decide, by decide⟩ rfl rfl (Nat.le_of_ble_eq_true rfl) d_C_pause_90 rfl ?_
        intro μ13 h
        refine r_aload_n (pc := 93) C d_C_pause_93 rfl 0 rfl ?_
        refine r_cVv (pc := 94) (a' := 0) (b' := 0) (As := []) (ci := 0) C (c_C_rememberRoots C.s hg h) o_C_rememberRoots rfl (lay_O hg rfl) (k_342 C.w) rfl ⟨by decide, by decide, by decide, by decide⟩ rfl rfl (Nat.le_of_ble_eq_true rfl) d_C_pause_94 rfl ?_
        intro μ14 h
        refine r_iload_n (pc := 97) C d_C_pause_97 rfl 2 rfl ?_
        exact r_iret (pc := 98) C Q d_C_pause_98 (by decide) (by decide) h
  unfold wC_pause at h
  refine r_aload_n (pc := 0) C d_C_pause_0 rfl 0 rfl ?_
  refine r_dupR (pc := 1) C d_C_pause_1 ?_
  refine r_getI (pc := 2) (ci := 0) C rfl 8 (by decide) (k_114 C.w) rfl (lay_O hg rfl) d_C_pause_2 ?_
  refine r_iconst (pc := 5) C d_C_pause_5 (v := 1) (by decide) ?_
  refine r_iadd (pc := 6) C d_C_pause_6 ?_
  refine r_putI (pc := 7) (ci := 0) C rfl 8 (by decide) (k_114 C.w) rfl rfl p_I (lay_O hg rfl) d_C_pause_7 ?_
  intro μ1 eμ1; replace h := h μ1 eμ1
  refine r_aload_n (pc := 10) C d_C_pause_10 rfl 0 rfl ?_
  refine r_ldc (pc := 11) C (k_144 C.w) d_C_pause_11 ?_
  refine r_cVv (pc := 13) (a' := 0) (b' := 0) (As := [.inl 1000000]) (ci := 0) C (c_C_drainUpTo C.s hg h) o_C_drainUpTo rfl (lay_O hg rfl) (k_145 C.w) rfl ⟨by decide, by decide, by decide, by decide⟩ rfl rfl (Nat.le_of_ble_eq_true rfl) d_C_pause_13 rfl ?_
  intro μ2 h
  refine r_aload_n (pc := 16) C d_C_pause_16 rfl 0 rfl ?_
  refine r_getR (pc := 17) (ci := 0) C rfl 3 (by decide) (k_109 C.w) rfl (lay_O hg rfl) d_C_pause_17 ?_
  refine r_cVv (pc := 20) (a' := 0) (b' := 0) (As := []) (ci := 1) C (c_P_close C.s hg h) o_P_close rfl (lay_O hg rfl) (k_181 C.w) rfl ⟨by decide, by decide, by decide, by decide⟩ rfl rfl (Nat.le_of_ble_eq_true rfl) d_C_pause_20 rfl ?_
  intro μ3 h
  refine r_aload_n (pc := 23) C d_C_pause_23 rfl 0 rfl ?_
  refine r_cVi (pc := 24) (a' := 0) (b' := 0) (As := []) (ci := 0) C (c_C_countSlots C.s hg h) o_C_countSlots rfl (lay_O hg rfl) (k_189 C.w) rfl ⟨by decide, by decide, by decide, by decide⟩ rfl rfl (Nat.le_of_ble_eq_true rfl) d_C_pause_24 rfl ?_
  intro r5 μ4 h
  refine r_istore_n (pc := 27) (lv' := [(0, .inr (.inl (some 0))), (1, .inl a1)]) C d_C_pause_27 rfl (by decide) rfl ?_
  refine r_aload_n (pc := 28) C d_C_pause_28 rfl 1 rfl ?_
  refine r_cVv (pc := 29) (a' := 0) (b' := 0) (As := []) (ci := 0) C (c_C_loseYoung C.s hg h) o_C_loseYoung rfl (lay_O hg rfl) (k_273 C.w) rfl ⟨by decide, by decide, by decide, by decide⟩ rfl rfl (Nat.le_of_ble_eq_true rfl) d_C_pause_29 rfl ?_
  intro μ6 h
  refine r_aload_n (pc := 32) C d_C_pause_32 rfl 1 rfl ?_
  refine r_cVv (pc := 33) (a' := 0) (b' := 0) (As := []) (ci := 0) C (c_C_queueRootsAndLog C.s hg h) o_C_queueRootsAndLog rfl (lay_O hg rfl) (k_277 C.w) rfl ⟨by decide, by decide, by decide, by decide⟩ rfl rfl (Nat.le_of_ble_eq_true rfl) d_C_pause_33 rfl ?_
  intro μ7 h
  refine r_aload_n (pc := 36) C d_C_pause_36 rfl 1 rfl ?_
  refine r_getI (pc := 37) (ci := 0) C rfl 7 (by decide) (k_113 C.w) rfl (lay_O hg rfl) d_C_pause_37 ?_
  refine r_if_eq (tgt := 71) (pc := 40) C d_C_pause_40 (by decide) ?_ ?_
  · intro hc; replace h := h.1 hc
    refine r_sub [1, 2, 0] rfl ?_
    exact J_71 a1 r5 μ7 h
  · intro hc; replace h := h.2 hc
    refine r_aload_n (pc := 43) C d_C_pause_43 rfl 1 rfl ?_
    refine r_cVi (pc := 44) (a' := 0) (b' := 0) (As := []) (ci := 0) C (c_C_countGrey C.s hg h) o_C_countGrey rfl (lay_O hg rfl) (k_289 C.w) rfl ⟨by decide, by decide, by decide, by decide⟩ rfl rfl (Nat.le_of_ble_eq_true rfl) d_C_pause_44 rfl ?_
    intro r16 μ15 h
    refine r_if_ne (tgt := 71) (pc := 47) C d_C_pause_47 (by decide) ?_ ?_
    · intro hc; replace h := h.2 hc
      refine r_sub [1, 2, 0] rfl ?_
      exact J_71 a1 r5 μ15 h
    · intro hc; replace h := h.1 hc
      refine r_aload_n (pc := 50) C d_C_pause_50 rfl 1 rfl ?_
      refine r_cVv (pc := 51) (a' := 0) (b' := 0) (As := []) (ci := 0) C (c_C_loseWhite C.s hg h) o_C_loseWhite rfl (lay_O hg rfl) (k_293 C.w) rfl ⟨by decide, by decide, by decide, by decide⟩ rfl rfl (Nat.le_of_ble_eq_true rfl) d_C_pause_51 rfl ?_
      intro μ17 h
      refine r_aload_n (pc := 54) C d_C_pause_54 rfl 1 rfl ?_
      refine r_cVv (pc := 55) (a' := 0) (b' := 0) (As := []) (ci := 0) C (c_C_recountStuck C.s hg h) o_C_recountStuck rfl (lay_O hg rfl) (k_298 C.w) rfl ⟨by decide, by decide, by decide, by decide⟩ rfl rfl (Nat.le_of_ble_eq_true rfl) d_C_pause_55 rfl ?_
      intro μ18 h
      refine r_aload_n (pc := 58) C d_C_pause_58 rfl 1 rfl ?_
      refine r_cVv (pc := 59) (a' := 0) (b' := 0) (As := []) (ci := 0) C (c_C_whitenAll C.s hg h) o_C_whitenAll rfl (lay_O hg rfl) (k_314 C.w) rfl ⟨by decide, by decide, by decide, by decide⟩ rfl rfl (Nat.le_of_ble_eq_true rfl) d_C_pause_59 rfl ?_
      intro μ19 h
      refine r_aload_n (pc := 62) C d_C_pause_62 rfl 1 rfl ?_
      refine r_cVv (pc := 63) (a' := 0) (b' := 0) (As := []) (ci := 0) C (c_C_clearSparsestBlock C.s hg h) o_C_clearSparsestBlock rfl (lay_O hg rfl) (k_318 C.w) rfl ⟨by decide, by decide, by decide, by decide⟩ rfl rfl (Nat.le_of_ble_eq_true rfl) d_C_pause_63 rfl ?_
      intro μ20 h
      refine r_aload_n (pc := 66) C d_C_pause_66 rfl 1 rfl ?_
      refine r_iconst (pc := 67) C d_C_pause_67 (v := 0) (by decide) ?_
      refine r_putZ (pc := 68) (ci := 0) C rfl 7 (by decide) (k_113 C.w) rfl rfl p_Z (Or.inl rfl) (lay_O hg rfl) d_C_pause_68 ?_
      intro μ21 eμ21; replace h := h μ21 eμ21
      refine r_sub [1, 2, 0] rfl ?_
      exact J_71 a1 r5 μ21 h
theorem c_C_blacken {l : Launch} (hl : l.stackTraces = false) {G : Gl} (hg : gf G = true) {a1 : Nat} {post : Mem → Prop} {μ : Mem} (h : wC_blacken a1 post μ) : Ct l G i_C_blacken [.inr (.inl (some a1))] μ (poV post) noX := by
  refine ct_of hl (by decide) (Nat.le_of_ble_eq_true rfl) ?_
  intro K hKl C Q hE
  clear hl hKl
  replace C : Cx K G prog_1_method_30_code "LineCollector" 5 { frames := 3, cells := 0, slots := 0, locals := 60 } := C
  replace Q : Cq K G { frames := 3, cells := 0, slots := 0, locals := 60 } (none) (poV post) noX := Q
  show Rn K G 5 0 [(0, .inr (.inl (some a1)))] [] μ 0 0
  have L_15 : ∀ (l1 : Nat) (l2 : Int32) (k : Int32 → Mem → Prop), (∀ (v3 : Int32) (μ : Mem), k v3 μ → Rn K G 5 41 [] [] μ 0 0) → ∀ (n : Nat) (l3 : Int32) (μ : Mem), wC_blacken_15 l1 l2 k n l3 μ → Rn K G 5 15 [(1, .inr (.inl (some l1))), (2, .inl l2), (3, .inl l3)] [] μ 0 0 := by
    intro l1 l2 k hk n
    induction n with
    | zero => intro l3 μ h; exact h.elim
    | succ n ih =>
      intro l3 μ h
      unfold wC_blacken_15 at h
      refine r_iload_n (pc := 15) C d_C_blacken_15 rfl 2 rfl ?_
      refine r_iload_n (pc := 16) C d_C_blacken_16 rfl 1 rfl ?_
      refine r_icmp_ge (tgt := 41) (pc := 17) C d_C_blacken_17 (by decide) ?_ ?_
      · intro hc; replace h := h.1 hc
        refine r_sub [] rfl ?_
        exact hk l3 μ h
      · intro hc; replace h := h.2 hc
        refine r_aload_n (pc := 20) C d_C_blacken_20 rfl 0 rfl ?_
        refine r_iload_n (pc := 21) C d_C_blacken_21 rfl 2 rfl ?_
        obtain ⟨o4, h⟩ := h
        obtain ⟨b5, h⟩ := h
        refine r_aald (pc := 22) C (ok_A o4) b5 d_C_blacken_22 ?_
        intro e6 he6; replace h := h e6 he6
        refine r_astore (pc := 23) (lv' := [(1, .inr (.inl (some l1))), (2, .inl l2), (3, .inl l3)]) C d_C_blacken_23 (by decide) rfl ?_
        refine r_aload (pc := 25) C d_C_blacken_25 0 rfl ?_
        refine r_ifnull (tgt := 35) (pc := 27) C d_C_blacken_27 (by decide) ?_ ?_
        · intro h0; subst h0; replace h := h.1 rfl
          refine r_iinc (pc := 35) (v := 1) (lv' := [(4, .inr (.inl none)), (1, .inr (.inl (some l1))), (2, .inl l2)]) C d_C_blacken_35 3 rfl (by decide) (by decide) rfl ?_
          refine r_goto (tgt := 15) (pc := 38) C d_C_blacken_38 (by decide) ?_
          refine r_sub [2, 3, 0] rfl ?_
          exact ih (l3 + 1) μ h
        · intro y7 h0; subst h0; replace h := h.2 y7 rfl
          refine r_aload (pc := 30) C d_C_blacken_30 0 rfl ?_
          obtain ⟨o8, h⟩ := h
          refine r_cVv (pc := 32) (a' := 0) (b' := 0) (As := []) (ci := 5) C (c_I_turnGreyIfWhite C.s hg h) o_I_turnGreyIfWhite rfl (ok_O o8) (k_169 C.w) rfl ⟨by decide, by decide, by decide, by decide⟩ rfl rfl (Nat.le_of_ble_eq_true rfl) d_C_blacken_32 rfl ?_
          intro μ9 h
          refine r_iinc (pc := 35) (v := 1) (lv' := [(4, .inr (.inl (some y7))), (1, .inr (.inl (some l1))), (2, .inl l2)]) C d_C_blacken_35 3 rfl (by decide) (by decide) rfl ?_
          refine r_goto (tgt := 15) (pc := 38) C d_C_blacken_38 (by decide) ?_
          refine r_sub [2, 3, 0] rfl ?_
          exact ih (l3 + 1) μ9 h
  unfold wC_blacken at h
  refine r_aload_n (pc := 0) C d_C_blacken_0 rfl 0 rfl ?_
  refine r_iconst (pc := 1) C d_C_blacken_1 (v := 2) (by decide) ?_
  obtain ⟨o1, h⟩ := h
  refine r_putI (pc := 2) (ci := 5) C rfl 6 (by decide) (k_474 C.w) rfl rfl p_I (ok_O o1) d_C_blacken_2 ?_
  intro μ2 eμ2; replace h := h μ2 eμ2
  refine r_aload_n (pc := 5) C d_C_blacken_5 rfl 0 rfl ?_
  refine r_getR (pc := 6) (ci := 5) C rfl 2 (by decide) (k_466 C.w) rfl (ok_O (ok_s eμ2 o1)) d_C_blacken_6 ?_
  refine r_astore_n (pc := 9) (lv' := [(0, .inr (.inl (some a1)))]) C d_C_blacken_9 rfl (by decide) rfl ?_
  refine r_aload_n (pc := 10) C d_C_blacken_10 rfl 0 rfl ?_
  obtain ⟨o3, h⟩ := h
  refine r_alenQ (pc := 11) (v := nI (mL μ2 (a1 + 1))) C (ok_A o3) rfl d_C_blacken_11 ?_
  refine r_istore_n (pc := 12) (lv' := [(1, .inr (.inl (some (a1 + 1)))), (0, .inr (.inl (some a1)))]) C d_C_blacken_12 rfl (by decide) rfl ?_
  refine r_iconst (pc := 13) C d_C_blacken_13 (v := 0) (by decide) ?_
  refine r_istore_n (pc := 14) (lv' := [(2, .inl (nI (mL μ2 (a1 + 1)))), (1, .inr (.inl (some (a1 + 1)))), (0, .inr (.inl (some a1)))]) C d_C_blacken_14 rfl (by decide) rfl ?_
  obtain ⟨n12, h⟩ := h
  refine r_sub [2, 1, 0] rfl ?_
  refine L_15 (a1 + 1) (nI (mL μ2 (a1 + 1))) _ ?_ n12 0 μ2 h
  intro v11 μ10 h
  exact r_vret (pc := 41) C Q d_C_blacken_41 (by decide) (by decide) h
theorem c_C_blackenFirstGrey {l : Launch} (hl : l.stackTraces = false) {G : Gl} (hg : gf G = true) {post : Int32 → Mem → Prop} {μ : Mem} (h : wC_blackenFirstGrey post μ) : Ct l G i_C_blackenFirstGrey [.inr (.inl (some 0))] μ (poI post) noX := by
  refine ct_of hl (by decide) (Nat.le_of_ble_eq_true rfl) ?_
  intro K hKl C Q hE
  clear hl hKl
  replace C : Cx K G prog_1_method_29_code "LineCollector" 5 { frames := 4, cells := 0, slots := 0, locals := 84 } := C
  replace Q : Cq K G { frames := 4, cells := 0, slots := 0, locals := 84 } (some .boolean) (poI post) noX := Q
  show Rn K G 5 0 [(0, .inr (.inl (some 0)))] [] μ 0 0
  have L_10 : ∀ (l2 : Int32) (k : Int32 → Mem → Prop), (∀ (v3 : Int32) (μ : Mem), k v3 μ → Rn K G 5 47 [] [] μ 0 0) → ∀ (n : Nat) (l3 : Int32) (μ : Mem), wC_blackenFirstGrey_10 l2 k post n l3 μ → Rn K G 5 10 [(1, .inr (.inl (some 3))), (2, .inl l2), (3, .inl l3)] [] μ 0 0 := by
    intro l2 k hk n
    induction n with
    | zero => intro l3 μ h; exact h.elim
    | succ n ih =>
      intro l3 μ h
      unfold wC_blackenFirstGrey_10 at h
      refine r_iload_n (pc := 10) C d_C_blackenFirstGrey_10 rfl 2 rfl ?_
      refine r_iload_n (pc := 11) C d_C_blackenFirstGrey_11 rfl 1 rfl ?_
      refine r_icmp_ge (tgt := 47) (pc := 12) C d_C_blackenFirstGrey_12 (by decide) ?_ ?_
      · intro hc; replace h := h.1 hc
        refine r_sub [] rfl ?_
        exact hk l3 μ h
      · intro hc; replace h := h.2 hc
        refine r_aload_n (pc := 15) C d_C_blackenFirstGrey_15 rfl 0 rfl ?_
        refine r_iload_n (pc := 16) C d_C_blackenFirstGrey_16 rfl 2 rfl ?_
        obtain ⟨b1, h⟩ := h
        refine r_aald (pc := 17) C (lay_A hg rfl) b1 d_C_blackenFirstGrey_17 ?_
        intro e2 he2; replace h := h e2 he2
        refine r_astore (pc := 18) (lv' := [(1, .inr (.inl (some 3))), (2, .inl l2), (3, .inl l3)]) C d_C_blackenFirstGrey_18 (by decide) rfl ?_
        refine r_aload (pc := 20) C d_C_blackenFirstGrey_20 0 rfl ?_
        refine r_ifnull (tgt := 41) (pc := 22) C d_C_blackenFirstGrey_22 (by decide) ?_ ?_
        · intro h0; subst h0; replace h := h.1 rfl
          refine r_iinc (pc := 41) (v := 1) (lv' := [(4, .inr (.inl none)), (1, .inr (.inl (some 3))), (2, .inl l2)]) C d_C_blackenFirstGrey_41 3 rfl (by decide) (by decide) rfl ?_
          refine r_goto (tgt := 10) (pc := 44) C d_C_blackenFirstGrey_44 (by decide) ?_
          refine r_sub [2, 3, 0] rfl ?_
          exact ih (l3 + 1) μ h
        · intro y3 h0; subst h0; replace h := h.2 y3 rfl
          refine r_aload (pc := 25) C d_C_blackenFirstGrey_25 0 rfl ?_
          obtain ⟨o4, h⟩ := h
          refine r_getI (pc := 27) (ci := 5) C rfl 6 (by decide) (k_474 C.w) rfl (ok_O o4) d_C_blackenFirstGrey_27 ?_
          refine r_iconst (pc := 30) C d_C_blackenFirstGrey_30 (v := 1) (by decide) ?_
          refine r_icmp_ne (tgt := 41) (pc := 31) C d_C_blackenFirstGrey_31 (by decide) ?_ ?_
          · intro hc; replace h := h.2 hc
            refine r_iinc (pc := 41) (v := 1) (lv' := [(4, .inr (.inl (some y3))), (1, .inr (.inl (some 3))), (2, .inl l2)]) C d_C_blackenFirstGrey_41 3 rfl (by decide) (by decide) rfl ?_
            refine r_goto (tgt := 10) (pc := 44) C d_C_blackenFirstGrey_44 (by decide) ?_
            refine r_sub [2, 3, 0] rfl ?_
            exact ih (l3 + 1) μ h
          · intro hc; replace h := h.1 hc
            refine r_aload (pc := 34) C d_C_blackenFirstGrey_34 0 rfl ?_
            refine r_cSv (pc := 36) (a' := 0) (b' := 0) (As := [.inr (.inl (some y3))]) C (c_C_blacken C.s hg h) o_C_blacken (k_436 C.w) rfl ⟨by decide, by decide, by decide, by decide⟩ rfl rfl (Nat.le_of_ble_eq_true rfl) d_C_blackenFirstGrey_36 rfl ?_
            intro μ5 h
            refine r_iconst (pc := 39) C d_C_blackenFirstGrey_39 (v := 1) (by decide) ?_
            exact r_zret (pc := 40) C Q (Or.inr rfl) d_C_blackenFirstGrey_40 (by decide) (by decide) h
  unfold wC_blackenFirstGrey at h
  refine r_aload_n (pc := 0) C d_C_blackenFirstGrey_0 rfl 0 rfl ?_
  refine r_getR (pc := 1) (ci := 0) C rfl 2 (by decide) (k_108 C.w) rfl (lay_O hg rfl) d_C_blackenFirstGrey_1 ?_
  refine r_astore_n (pc := 4) (lv' := [(0, .inr (.inl (some 0)))]) C d_C_blackenFirstGrey_4 rfl (by decide) rfl ?_
  refine r_aload_n (pc := 5) C d_C_blackenFirstGrey_5 rfl 0 rfl ?_
  refine r_alenQ (pc := 6) (v := 128) C (lay_A hg rfl) (by decide) d_C_blackenFirstGrey_6 ?_
  refine r_istore_n (pc := 7) (lv' := [(1, .inr (.inl (some 3))), (0, .inr (.inl (some 0)))]) C d_C_blackenFirstGrey_7 rfl (by decide) rfl ?_
  refine r_iconst (pc := 8) C d_C_blackenFirstGrey_8 (v := 0) (by decide) ?_
  refine r_istore_n (pc := 9) (lv' := [(2, .inl 128), (1, .inr (.inl (some 3))), (0, .inr (.inl (some 0)))]) C d_C_blackenFirstGrey_9 rfl (by decide) rfl ?_
  obtain ⟨n8, h⟩ := h
  refine r_sub [2, 1, 0] rfl ?_
  refine L_10 128 _ ?_ n8 0 μ h
  intro v7 μ6 h
  refine r_iconst (pc := 47) C d_C_blackenFirstGrey_47 (v := 0) (by decide) ?_
  exact r_zret (pc := 48) C Q (Or.inl rfl) d_C_blackenFirstGrey_48 (by decide) (by decide) h
theorem c_C_stepUpTo {l : Launch} (hl : l.stackTraces = false) {G : Gl} (hg : gf G = true) {a1 : Int32} {post : Mem → Prop} {μ : Mem} (h : wC_stepUpTo a1 post μ) : Ct l G i_C_stepUpTo [.inr (.inl (some 0)), .inl a1] μ (poV post) noX := by
  refine ct_of hl (by decide) (Nat.le_of_ble_eq_true rfl) ?_
  intro K hKl C Q hE
  clear hl hKl
  replace C : Cx K G prog_1_method_28_code "LineCollector" 4 { frames := 5, cells := 0, slots := 0, locals := 108 } := C
  replace Q : Cq K G { frames := 5, cells := 0, slots := 0, locals := 108 } (none) (poV post) noX := Q
  show Rn K G 4 0 [(0, .inr (.inl (some 0))), (1, .inl a1)] [] μ 0 0
  have L_4 : ∀ (l1 : Int32) (k : Int32 → Int32 → Mem → Prop), (∀ (v2 : Int32) (v3 : Int32) (μ : Mem), k v2 v3 μ → Rn K G 4 24 [] [] μ 0 0) → ∀ (n : Nat) (l2 : Int32) (l3 : Int32) (μ : Mem), wC_stepUpTo_4 l1 k n l2 l3 μ → Rn K G 4 4 [(0, .inr (.inl (some 0))), (1, .inl l1), (2, .inl l2), (3, .inl l3)] [] μ 0 0 := by
    intro l1 k hk n
    induction n with
    | zero => intro l2 l3 μ h; exact h.elim
    | succ n ih =>
      intro l2 l3 μ h
      unfold wC_stepUpTo_4 at h
      refine r_iload_n (pc := 4) C d_C_stepUpTo_4 rfl 3 rfl ?_
      refine r_iload_n (pc := 5) C d_C_stepUpTo_5 rfl 1 rfl ?_
      refine r_icmp_ge (tgt := 24) (pc := 6) C d_C_stepUpTo_6 (by decide) ?_ ?_
      · intro hc; replace h := h.1 hc
        refine r_sub [] rfl ?_
        exact hk l2 l3 μ h
      · intro hc; replace h := h.2 hc
        refine r_iload_n (pc := 9) C d_C_stepUpTo_9 rfl 2 rfl ?_
        refine r_if_eq (tgt := 24) (pc := 10) C d_C_stepUpTo_10 (by decide) ?_ ?_
        · intro hc; replace h := h.1 hc
          refine r_sub [] rfl ?_
          exact hk l2 l3 μ h
        · intro hc; replace h := h.2 hc
          refine r_aload_n (pc := 13) C d_C_stepUpTo_13 rfl 0 rfl ?_
          refine r_cVi (pc := 14) (a' := 0) (b' := 0) (As := []) (ci := 0) C (c_C_blackenFirstGrey C.s hg h) o_C_blackenFirstGrey rfl (lay_O hg rfl) (k_432 C.w) rfl ⟨by decide, by decide, by decide, by decide⟩ rfl rfl (Nat.le_of_ble_eq_true rfl) d_C_stepUpTo_14 rfl ?_
          intro r2 μ1 h
          refine r_istore_n (pc := 17) (lv' := [(0, .inr (.inl (some 0))), (1, .inl l1), (3, .inl l3)]) C d_C_stepUpTo_17 rfl (by decide) rfl ?_
          refine r_iinc (pc := 18) (v := 1) (lv' := [(2, .inl r2), (0, .inr (.inl (some 0))), (1, .inl l1)]) C d_C_stepUpTo_18 3 rfl (by decide) (by decide) rfl ?_
          refine r_goto (tgt := 4) (pc := 21) C d_C_stepUpTo_21 (by decide) ?_
          refine r_sub [2, 3, 1, 0] rfl ?_
          exact ih r2 (l3 + 1) μ1 h
  unfold wC_stepUpTo at h
  refine r_iconst (pc := 0) C d_C_stepUpTo_0 (v := 1) (by decide) ?_
  refine r_istore_n (pc := 1) (lv' := [(0, .inr (.inl (some 0))), (1, .inl a1)]) C d_C_stepUpTo_1 rfl (by decide) rfl ?_
  refine r_iconst (pc := 2) C d_C_stepUpTo_2 (v := 0) (by decide) ?_
  refine r_istore_n (pc := 3) (lv' := [(2, .inl 1), (0, .inr (.inl (some 0))), (1, .inl a1)]) C d_C_stepUpTo_3 rfl (by decide) rfl ?_
  obtain ⟨n6, h⟩ := h
  refine r_sub [2, 3, 1, 0] rfl ?_
  refine L_4 a1 _ ?_ n6 1 0 μ h
  intro v4 v5 μ3 h
  exact r_vret (pc := 24) C Q d_C_stepUpTo_24 (by decide) (by decide) h
theorem c_C_collect {l : Launch} (hl : l.stackTraces = false) {G : Gl} (hg : gf G = true) {post : Mem → Prop} {μ : Mem} (h : wC_collect post μ) : Ct l G i_C_collect [.inr (.inl (some 0))] μ (poV post) noX := by
  refine ct_of hl (by decide) (Nat.le_of_ble_eq_true rfl) ?_
  intro K hKl C Q hE
  clear hl hKl
  replace C : Cx K G prog_1_method_25_code "LineCollector" 1 { frames := 6, cells := 0, slots := 0, locals := 133 } := C
  replace Q : Cq K G { frames := 6, cells := 0, slots := 0, locals := 133 } (none) (poV post) noX := Q
  show Rn K G 1 0 [(0, .inr (.inl (some 0)))] [] μ 0 0
  unfold wC_collect at h
  refine r_aload_n (pc := 0) C d_C_collect_0 rfl 0 rfl ?_
  refine r_iconst (pc := 1) C d_C_collect_1 (v := 1) (by decide) ?_
  refine r_cVi (pc := 2) (a' := 0) (b' := 0) (As := [.inl 1]) (ci := 0) C (c_C_pause C.s hg h) o_C_pause rfl (lay_O hg rfl) (k_427 C.w) rfl ⟨by decide, by decide, by decide, by decide⟩ rfl rfl (Nat.le_of_ble_eq_true rfl) d_C_collect_2 rfl ?_
  intro r2 μ1 h
  refine r_popI (pc := 5) C d_C_collect_5 ?_
  refine r_aload_n (pc := 6) C d_C_collect_6 rfl 0 rfl ?_
  refine r_ldc (pc := 7) C (k_144 C.w) d_C_collect_7 ?_
  refine r_cVv (pc := 9) (a' := 0) (b' := 0) (As := [.inl 1000000]) (ci := 0) C (c_C_stepUpTo C.s hg h) o_C_stepUpTo rfl (lay_O hg rfl) (k_428 C.w) rfl ⟨by decide, by decide, by decide, by decide⟩ rfl rfl (Nat.le_of_ble_eq_true rfl) d_C_collect_9 rfl ?_
  intro μ3 h
  refine r_aload_n (pc := 12) C d_C_collect_12 rfl 0 rfl ?_
  refine r_iconst (pc := 13) C d_C_collect_13 (v := 0) (by decide) ?_
  refine r_cVi (pc := 14) (a' := 0) (b' := 0) (As := [.inl 0]) (ci := 0) C (c_C_pause C.s hg h) o_C_pause rfl (lay_O hg rfl) (k_427 C.w) rfl ⟨by decide, by decide, by decide, by decide⟩ rfl rfl (Nat.le_of_ble_eq_true rfl) d_C_collect_14 rfl ?_
  intro r5 μ4 h
  refine r_popI (pc := 17) C d_C_collect_17 ?_
  refine r_aload_n (pc := 18) C d_C_collect_18 rfl 0 rfl ?_
  refine r_ldc (pc := 19) C (k_144 C.w) d_C_collect_19 ?_
  refine r_cVv (pc := 21) (a' := 0) (b' := 0) (As := [.inl 1000000]) (ci := 0) C (c_C_drainUpTo C.s hg h) o_C_drainUpTo rfl (lay_O hg rfl) (k_145 C.w) rfl ⟨by decide, by decide, by decide, by decide⟩ rfl rfl (Nat.le_of_ble_eq_true rfl) d_C_collect_21 rfl ?_
  intro μ6 h
  exact r_vret (pc := 24) C Q d_C_collect_24 (by decide) (by decide) h
theorem c_C_allocate {l : Launch} (hl : l.stackTraces = false) {G : Gl} (hg : gf G = true) {a1 : Int32} {a2 : Int32} {a3 : Int32} {pe : Nat → Mem → Prop} {post : Int32 → Mem → Prop} {μ : Mem} (h : wC_allocate a1 a2 a3 pe post μ) : Ct l G i_C_allocate [.inr (.inl (some 0)), .inl a1, .inl a2, .inl a3] μ (poI post) pe := by
  refine ct_of hl (by decide) (Nat.le_of_ble_eq_true rfl) ?_
  intro K hKl C Q hE
  clear hl hKl
  replace C : Cx K G prog_1_method_2_code "LineCollector" 6 { frames := 7, cells := 3, slots := 31, locals := 153 } := C
  replace Q : Cq K G { frames := 7, cells := 3, slots := 31, locals := 153 } (some .int) (poI post) pe := Q
  show Rn K G 6 0 [(0, .inr (.inl (some 0))), (1, .inl a1), (2, .inl a2), (3, .inl a3)] [] μ 0 0
  have J_56 : ∀ (l1 : Int32) (l2 : Int32) (l3 : Int32) (l4 : Int32) (μ : Mem), wC_allocate_56 l1 l2 l3 l4 pe post μ → Rn K G 6 56 [(0, .inr (.inl (some 0))), (1, .inl l1), (2, .inl l2), (3, .inl l3), (4, .inl l4)] [] μ 0 0 := by
    intro l1 l2 l3 l4 μ h
    unfold wC_allocate_56 at h
    refine r_iload (pc := 56) C d_C_allocate_56 4 rfl ?_
    refine r_iconst (pc := 58) C d_C_allocate_58 (v := (-1)) (by decide) ?_
    refine r_icmp_ne (tgt := 70) (pc := 59) C d_C_allocate_59 (by decide) ?_ ?_
    · intro hc; replace h := h.2 hc
      refine r_new (pc := 70) (ci := 5) (a' := 1) (b' := 7) C rfl (k_25 C.w) x_io5 x_ii5 d_C_allocate_70 ⟨by decide, by decide⟩ rfl rfl ?_
      intro y5 μ6 ey5 eμ6; replace h := h y5 μ6 ey5 eμ6
      refine r_dupR (pc := 73) C d_C_allocate_73 ?_
      refine r_iload_n (pc := 74) C d_C_allocate_74 rfl 2 rfl ?_
      refine r_iload_n (pc := 75) C d_C_allocate_75 rfl 3 rfl ?_
      refine r_cI (pc := 76) (a' := 3) (b' := 31) (As := [.inl l2, .inl l3]) (host := "") C (c_I_init C.s h) o_I_init (Or.inl (k_455 C.w)) rfl ⟨by decide, by decide, by decide, by decide⟩ rfl rfl (Nat.le_of_ble_eq_true rfl) d_C_allocate_76 rfl ?_
      intro μ7 h; obtain ⟨f9, h⟩ := h
      refine r_fin (by decide) f9 ?_
      intro μ8 eμ8; replace h := h μ8 eμ8
      refine r_astore (pc := 79) (lv' := [(0, .inr (.inl (some 0))), (1, .inl l1), (2, .inl l2), (3, .inl l3), (4, .inl l4)]) C d_C_allocate_79 (by decide) rfl ?_
      refine r_aload_n (pc := 81) C d_C_allocate_81 rfl 1 rfl ?_
      refine r_aload (pc := 82) C d_C_allocate_82 0 rfl ?_
      refine r_iload (pc := 84) C d_C_allocate_84 5 rfl ?_
      refine r_cVv (pc := 86) (a' := 3) (b' := 31) (As := [.inr (.inl (some y5)), .inl l4]) (ci := 0) C (c_C_settle C.s hg h) o_C_settle rfl (lay_O hg rfl) (k_257 C.w) rfl ⟨by decide, by decide, by decide, by decide⟩ rfl rfl (Nat.le_of_ble_eq_true rfl) d_C_allocate_86 rfl ?_
      intro μ10 h
      refine r_aload_n (pc := 89) C d_C_allocate_89 rfl 1 rfl ?_
      refine r_getR (pc := 90) (ci := 0) C rfl 0 (by decide) (k_106 C.w) rfl (lay_O hg rfl) d_C_allocate_90 ?_
      refine r_iload_n (pc := 93) C d_C_allocate_93 rfl 2 rfl ?_
      refine r_aload (pc := 94) C d_C_allocate_94 0 rfl ?_
      obtain ⟨b11, h⟩ := h
      obtain ⟨o13, h⟩ := h
      refine r_aast (pc := 96) C (lay_A hg rfl) b11 d_C_allocate_96 (fun y hy => by cases hy; exact o13) ?_
      intro μ12 eμ12; replace h := h μ12 eμ12
      refine r_iload (pc := 97) C d_C_allocate_97 5 rfl ?_
      exact r_iret (pc := 99) C Q d_C_allocate_99 (by decide) (by decide) h
    · intro hc; replace h := h.1 hc
      exact r_throw (pc := 62) C Q hE (q := 10) rfl (by decide +kernel) (k_439 C.w) x_ins10 x_ini10 (x_C_61) d_C_allocate_62 d_C_allocate_65 d_C_allocate_66 d_C_allocate_69 ⟨by decide, by decide, by decide, by decide⟩ h
  unfold wC_allocate at h
  refine r_iload_n (pc := 0) C d_C_allocate_0 rfl 1 rfl ?_
  refine r_cSi (pc := 1) (a' := 0) (b' := 0) (As := [.inl a1]) C (c_C_isRoot C.s hg h) o_C_isRoot (k_355 C.w) rfl ⟨by decide, by decide, by decide, by decide⟩ rfl rfl (Nat.le_of_ble_eq_true rfl) d_C_allocate_1 rfl ?_
  intro r2 μ1 h
  refine r_if_eq (tgt := 18) (pc := 4) C d_C_allocate_4 (by decide) ?_ ?_
  · intro hc; replace h := h.1 hc
    exact r_throw (pc := 18) C Q hE (q := 7) rfl (by decide +kernel) (k_358 C.w) x_ins7 x_ini7 (x_C_51) d_C_allocate_18 d_C_allocate_21 d_C_allocate_22 d_C_allocate_25 ⟨by decide, by decide, by decide, by decide⟩ h
  · intro hc; replace h := h.2 hc
    refine r_iload_n (pc := 7) C d_C_allocate_7 rfl 2 rfl ?_
    refine r_iconst (pc := 8) C d_C_allocate_8 (v := 1) (by decide) ?_
    refine r_icmp_lt (tgt := 18) (pc := 9) C d_C_allocate_9 (by decide) ?_ ?_
    · intro hc; replace h := h.1 hc
      exact r_throw (pc := 18) C Q hE (q := 7) rfl (by decide +kernel) (k_358 C.w) x_ins7 x_ini7 (x_C_51) d_C_allocate_18 d_C_allocate_21 d_C_allocate_22 d_C_allocate_25 ⟨by decide, by decide, by decide, by decide⟩ h
    · intro hc; replace h := h.2 hc
      refine r_iload_n (pc := 12) C d_C_allocate_12 rfl 2 rfl ?_
      refine r_bipush (pc := 13) C d_C_allocate_13 (v := 12) (by decide) ?_
      refine r_icmp_le (tgt := 26) (pc := 15) C d_C_allocate_15 (by decide) ?_ ?_
      · intro hc; replace h := h.1 hc
        refine r_aload_n (pc := 26) C d_C_allocate_26 rfl 0 rfl ?_
        refine r_getR (pc := 27) (ci := 0) C rfl 3 (by decide) (k_109 C.w) rfl (lay_O hg rfl) d_C_allocate_27 ?_
        refine r_iload_n (pc := 30) C d_C_allocate_30 rfl 2 rfl ?_
        refine r_cVi (pc := 31) (a' := 0) (b' := 0) (As := [.inl a2]) (ci := 1) C (c_P_find C.s hg h) o_P_find rfl (lay_O hg rfl) (k_217 C.w) rfl ⟨by decide, by decide, by decide, by decide⟩ rfl rfl (Nat.le_of_ble_eq_true rfl) d_C_allocate_31 rfl ?_
        intro r4 μ3 h
        refine r_istore (pc := 34) (lv' := [(0, .inr (.inl (some 0))), (1, .inl a1), (2, .inl a2), (3, .inl a3)]) C d_C_allocate_34 (by decide) rfl ?_
        refine r_iload (pc := 36) C d_C_allocate_36 0 rfl ?_
        refine r_iconst (pc := 38) C d_C_allocate_38 (v := (-1)) (by decide) ?_
        refine r_icmp_ne (tgt := 56) (pc := 39) C d_C_allocate_39 (by decide) ?_ ?_
        · intro hc; replace h := h.2 hc
          refine r_sub [1, 2, 3, 4, 0] rfl ?_
          exact J_56 a1 a2 a3 r4 μ3 h
        · intro hc; replace h := h.1 hc
          refine r_aload_n (pc := 42) C d_C_allocate_42 rfl 1 rfl ?_
          refine r_cVv (pc := 43) (a' := 0) (b' := 0) (As := []) (ci := 0) C (c_C_collect C.s hg h) o_C_collect rfl (lay_O hg rfl) (k_423 C.w) rfl ⟨by decide, by decide, by decide, by decide⟩ rfl rfl (Nat.le_of_ble_eq_true rfl) d_C_allocate_43 rfl ?_
          intro μ14 h
          refine r_aload_n (pc := 46) C d_C_allocate_46 rfl 1 rfl ?_
          refine r_getR (pc := 47) (ci := 0) C rfl 3 (by decide) (k_109 C.w) rfl (lay_O hg rfl) d_C_allocate_47 ?_
          refine r_iload_n (pc := 50) C d_C_allocate_50 rfl 3 rfl ?_
          refine r_cVi (pc := 51) (a' := 0) (b' := 0) (As := [.inl a2]) (ci := 1) C (c_P_find C.s hg h) o_P_find rfl (lay_O hg rfl) (k_217 C.w) rfl ⟨by decide, by decide, by decide, by decide⟩ rfl rfl (Nat.le_of_ble_eq_true rfl) d_C_allocate_51 rfl ?_
          intro r16 μ15 h
          refine r_istore (pc := 54) (lv' := [(0, .inr (.inl (some 0))), (1, .inl a1), (2, .inl a2), (3, .inl a3)]) C d_C_allocate_54 (by decide) rfl ?_
          refine r_sub [1, 2, 3, 4, 0] rfl ?_
          exact J_56 a1 a2 a3 r16 μ15 h
      · intro hc; replace h := h.2 hc
        exact r_throw (pc := 18) C Q hE (q := 7) rfl (by decide +kernel) (k_358 C.w) x_ins7 x_ini7 (x_C_51) d_C_allocate_18 d_C_allocate_21 d_C_allocate_22 d_C_allocate_25 ⟨by decide, by decide, by decide, by decide⟩ h
