/-! The machine meets the predicates (written by a program) -/
theorem c_C_isRoot {l : Launch} (hl : l.stackTraces = false) {G : Gl} {a1 : Int32} {post : Int32 → Mem → Prop} {μ : Mem} (h : wC_isRoot a1 post μ) : Ct l G i_C_isRoot [.inl a1] μ (poI post) noX := by
  refine ct_of hl (by decide) (Nat.le_of_ble_eq_true rfl) ?_
  intro K hKl C hE
  clear hl hKl
  replace C : Cx K G prog_1_method_15_code "LineCollector" 1 { frames := 0, cells := 0, slots := 0, locals := 0 } (some .boolean) (poI post) noX := C
  show Rn K G 1 0 [(0, .inl a1)] [] μ 0 0
  unfold wC_isRoot at h
  refine r_iload_n (pc := 0) C d_C_isRoot_0 rfl 0 rfl ?_
  refine r_if_lt (tgt := 14) (pc := 1) C d_C_isRoot_1 (by decide) ?_ ?_
  · intro hc; replace h := h.1 hc
    refine r_iconst (pc := 14) C d_C_isRoot_14 (v := 0) (by decide) ?_
    exact r_zret (pc := 15) C (Or.inl rfl) d_C_isRoot_15 (by decide) (by decide) h
  · intro hc; replace h := h.2 hc
    refine r_iload_n (pc := 4) C d_C_isRoot_4 rfl 0 rfl ?_
    refine r_bipush (pc := 5) C d_C_isRoot_5 (v := 6) (by decide) ?_
    refine r_icmp_ge (tgt := 14) (pc := 7) C d_C_isRoot_7 (by decide) ?_ ?_
    · intro hc; replace h := h.1 hc
      refine r_iconst (pc := 14) C d_C_isRoot_14 (v := 0) (by decide) ?_
      exact r_zret (pc := 15) C (Or.inl rfl) d_C_isRoot_15 (by decide) (by decide) h
    · intro hc; replace h := h.2 hc
      refine r_iconst (pc := 10) C d_C_isRoot_10 (v := 1) (by decide) ?_
      refine r_goto (tgt := 15) (pc := 11) C d_C_isRoot_11 (by decide) ?_
      exact r_zret (pc := 15) C (Or.inr rfl) d_C_isRoot_15 (by decide) (by decide) h
theorem c_S_has {l : Launch} (hl : l.stackTraces = false) {G : Gl} {x : Nat} {a1 : Int32} {post : Int32 → Mem → Prop} {μ : Mem} (h : wS_has x a1 post μ) : Ct l G i_S_has [.inr (.inl (some x)), .inl a1] μ (poI post) noX := by
  refine ct_of hl (by decide) (Nat.le_of_ble_eq_true rfl) ?_
  intro K hKl C hE
  clear hl hKl
  replace C : Cx K G prog_6_method_3_code "LineCollector$Span" 2 { frames := 0, cells := 0, slots := 0, locals := 0 } (some .boolean) (poI post) noX := C
  show Rn K G 2 0 [(0, .inr (.inl (some x))), (1, .inl a1)] [] μ 0 0
  unfold wS_has at h
  refine r_aload_n (pc := 0) C d_S_has_0 rfl 0 rfl ?_
  obtain ⟨o1, h⟩ := h
  refine r_getI (pc := 1) (ci := 2) C rfl 2 (by decide) (k_41 C.w) rfl (ok_O o1) d_S_has_1 ?_
  refine r_aload_n (pc := 4) C d_S_has_4 rfl 0 rfl ?_
  refine r_getI (pc := 5) (ci := 2) C rfl 1 (by decide) (k_40 C.w) rfl (ok_O o1) d_S_has_5 ?_
  refine r_isub (pc := 8) C d_S_has_8 ?_
  refine r_iload_n (pc := 9) C d_S_has_9 rfl 1 rfl ?_
  refine r_icmp_lt (tgt := 17) (pc := 10) C d_S_has_10 (by decide) ?_ ?_
  · intro hc; replace h := h.1 hc
    refine r_iconst (pc := 17) C d_S_has_17 (v := 0) (by decide) ?_
    exact r_zret (pc := 18) C (Or.inl rfl) d_S_has_18 (by decide) (by decide) h
  · intro hc; replace h := h.2 hc
    refine r_iconst (pc := 13) C d_S_has_13 (v := 1) (by decide) ?_
    refine r_goto (tgt := 18) (pc := 14) C d_S_has_14 (by decide) ?_
    exact r_zret (pc := 18) C (Or.inr rfl) d_S_has_18 (by decide) (by decide) h
theorem c_S_take {l : Launch} (hl : l.stackTraces = false) {G : Gl} {x : Nat} {a1 : Int32} {post : Int32 → Mem → Prop} {μ : Mem} (h : wS_take x a1 post μ) : Ct l G i_S_take [.inr (.inl (some x)), .inl a1] μ (poI post) noX := by
  refine ct_of hl (by decide) (Nat.le_of_ble_eq_true rfl) ?_
  intro K hKl C hE
  clear hl hKl
  replace C : Cx K G prog_6_method_4_code "LineCollector$Span" 3 { frames := 0, cells := 0, slots := 0, locals := 0 } (some .int) (poI post) noX := C
  show Rn K G 3 0 [(0, .inr (.inl (some x))), (1, .inl a1)] [] μ 0 0
  unfold wS_take at h
  refine r_aload_n (pc := 0) C d_S_take_0 rfl 0 rfl ?_
  obtain ⟨o1, h⟩ := h
  refine r_getI (pc := 1) (ci := 2) C rfl 1 (by decide) (k_40 C.w) rfl (ok_O o1) d_S_take_1 ?_
  refine r_istore_n (pc := 4) (lv' := [(0, .inr (.inl (some x))), (1, .inl a1)]) C d_S_take_4 rfl (by decide) rfl ?_
  refine r_aload_n (pc := 5) C d_S_take_5 rfl 1 rfl ?_
  refine r_dupR (pc := 6) C d_S_take_6 ?_
  refine r_getI (pc := 7) (ci := 2) C rfl 1 (by decide) (k_40 C.w) rfl (ok_O o1) d_S_take_7 ?_
  refine r_iload_n (pc := 10) C d_S_take_10 rfl 2 rfl ?_
  refine r_iadd (pc := 11) C d_S_take_11 ?_
  refine r_putI (pc := 12) (ci := 2) C rfl 1 (by decide) (k_40 C.w) rfl rfl p_I (ok_O o1) d_S_take_12 ?_
  intro μ2 eμ2; replace h := h μ2 eμ2
  refine r_iload_n (pc := 15) C d_S_take_15 rfl 0 rfl ?_
  exact r_iret (pc := 16) C d_S_take_16 (by decide) (by decide) h
theorem c_S_covers {l : Launch} (hl : l.stackTraces = false) {G : Gl} {x : Nat} {a1 : Int32} {post : Int32 → Mem → Prop} {μ : Mem} (h : wS_covers x a1 post μ) : Ct l G i_S_covers [.inr (.inl (some x)), .inl a1] μ (poI post) noX := by
  refine ct_of hl (by decide) (Nat.le_of_ble_eq_true rfl) ?_
  intro K hKl C hE
  clear hl hKl
  replace C : Cx K G prog_6_method_5_code "LineCollector$Span" 2 { frames := 0, cells := 0, slots := 0, locals := 0 } (some .boolean) (poI post) noX := C
  show Rn K G 2 0 [(0, .inr (.inl (some x))), (1, .inl a1)] [] μ 0 0
  unfold wS_covers at h
  refine r_iload_n (pc := 0) C d_S_covers_0 rfl 1 rfl ?_
  refine r_iconst (pc := 1) C d_S_covers_1 (v := 4) (by decide) ?_
  refine r_imul (pc := 2) C d_S_covers_2 ?_
  refine r_aload_n (pc := 3) C d_S_covers_3 rfl 0 rfl ?_
  obtain ⟨o1, h⟩ := h
  refine r_getI (pc := 4) (ci := 2) C rfl 0 (by decide) (k_39 C.w) rfl (ok_O o1) d_S_covers_4 ?_
  refine r_icmp_lt (tgt := 24) (pc := 7) C d_S_covers_7 (by decide) ?_ ?_
  · intro hc; replace h := h.1 hc
    refine r_iconst (pc := 24) C d_S_covers_24 (v := 0) (by decide) ?_
    exact r_zret (pc := 25) C (Or.inl rfl) d_S_covers_25 (by decide) (by decide) h
  · intro hc; replace h := h.2 hc
    refine r_iload_n (pc := 10) C d_S_covers_10 rfl 1 rfl ?_
    refine r_iconst (pc := 11) C d_S_covers_11 (v := 4) (by decide) ?_
    refine r_imul (pc := 12) C d_S_covers_12 ?_
    refine r_aload_n (pc := 13) C d_S_covers_13 rfl 0 rfl ?_
    refine r_getI (pc := 14) (ci := 2) C rfl 2 (by decide) (k_41 C.w) rfl (ok_O o1) d_S_covers_14 ?_
    refine r_icmp_ge (tgt := 24) (pc := 17) C d_S_covers_17 (by decide) ?_ ?_
    · intro hc; replace h := h.1 hc
      refine r_iconst (pc := 24) C d_S_covers_24 (v := 0) (by decide) ?_
      exact r_zret (pc := 25) C (Or.inl rfl) d_S_covers_25 (by decide) (by decide) h
    · intro hc; replace h := h.2 hc
      refine r_iconst (pc := 20) C d_S_covers_20 (v := 1) (by decide) ?_
      refine r_goto (tgt := 25) (pc := 21) C d_S_covers_21 (by decide) ?_
      exact r_zret (pc := 25) C (Or.inr rfl) d_S_covers_25 (by decide) (by decide) h
theorem c_P_isFree {l : Launch} (hl : l.stackTraces = false) {G : Gl} {a1 : Int32} {post : Int32 → Mem → Prop} {μ : Mem} (h : wP_isFree a1 post μ) : Ct l G i_P_isFree [.inr (.inl (some 4)), .inl a1] μ (poI post) noX := by
  refine ct_of hl (by decide) (Nat.le_of_ble_eq_true rfl) ?_
  intro K hKl C hE
  clear hl hKl
  replace C : Cx K G prog_4_method_3_code "LineCollector$Places" 2 { frames := 1, cells := 0, slots := 0, locals := 21 } (some .boolean) (poI post) noX := C
  show Rn K G 2 0 [(0, .inr (.inl (some 4))), (1, .inl a1)] [] μ 0 0
  unfold wP_isFree at h
  refine r_aload_n (pc := 0) C d_P_isFree_0 rfl 0 rfl ?_
  refine r_getR (pc := 1) (ci := 1) C rfl 0 (by decide) (k_51 C.w) rfl (lay_O rfl) d_P_isFree_1 ?_
  refine r_iload_n (pc := 4) C d_P_isFree_4 rfl 1 rfl ?_
  obtain ⟨b1, h⟩ := h
  refine r_iald (pc := 5) C (lay_A rfl) b1 d_P_isFree_5 ?_
  refine r_if_ne (tgt := 55) (pc := 6) C d_P_isFree_6 (by decide) ?_ ?_
  · intro hc; replace h := h.2 hc
    refine r_iconst (pc := 55) C d_P_isFree_55 (v := 0) (by decide) ?_
    exact r_zret (pc := 56) C (Or.inl rfl) d_P_isFree_56 (by decide) (by decide) h
  · intro hc; replace h := h.1 hc
    refine r_aload_n (pc := 9) C d_P_isFree_9 rfl 0 rfl ?_
    refine r_getR (pc := 10) (ci := 1) C rfl 1 (by decide) (k_52 C.w) rfl (lay_O rfl) d_P_isFree_10 ?_
    refine r_iload_n (pc := 13) C d_P_isFree_13 rfl 1 rfl ?_
    refine r_zald (pc := 14) C (lay_A rfl) b1 d_P_isFree_14 ?_
    refine r_if_ne (tgt := 55) (pc := 15) C d_P_isFree_15 (by decide) ?_ ?_
    · intro hc; replace h := h.2 hc
      refine r_iconst (pc := 55) C d_P_isFree_55 (v := 0) (by decide) ?_
      exact r_zret (pc := 56) C (Or.inl rfl) d_P_isFree_56 (by decide) (by decide) h
    · intro hc; replace h := h.1 hc
      refine r_iload_n (pc := 18) C d_P_isFree_18 rfl 1 rfl ?_
      refine r_bipush (pc := 19) C d_P_isFree_19 (v := 8) (by decide) ?_
      refine r_idiv (pc := 21) C d_P_isFree_21 (by decide) ?_
      refine r_aload_n (pc := 22) C d_P_isFree_22 rfl 0 rfl ?_
      refine r_getI (pc := 23) (ci := 1) C rfl 4 (by decide) (k_55 C.w) rfl (lay_O rfl) d_P_isFree_23 ?_
      refine r_icmp_eq (tgt := 55) (pc := 26) C d_P_isFree_26 (by decide) ?_ ?_
      · intro hc; replace h := h.1 hc
        refine r_iconst (pc := 55) C d_P_isFree_55 (v := 0) (by decide) ?_
        exact r_zret (pc := 56) C (Or.inl rfl) d_P_isFree_56 (by decide) (by decide) h
      · intro hc; replace h := h.2 hc
        refine r_aload_n (pc := 29) C d_P_isFree_29 rfl 0 rfl ?_
        refine r_getR (pc := 30) (ci := 1) C rfl 2 (by decide) (k_53 C.w) rfl (lay_O rfl) d_P_isFree_30 ?_
        refine r_iload_n (pc := 33) C d_P_isFree_33 rfl 1 rfl ?_
        refine r_cVi (pc := 34) (a' := 0) (b' := 0) (As := [.inl a1]) (ci := 2) C (c_S_covers C.s h) o_S_covers rfl (lay_O rfl) (k_241 C.w) rfl ⟨by decide, by decide, by decide, by decide⟩ rfl rfl (Nat.le_of_ble_eq_true rfl) d_P_isFree_34 rfl ?_
        intro r3 μ2 h
        refine r_if_ne (tgt := 55) (pc := 37) C d_P_isFree_37 (by decide) ?_ ?_
        · intro hc; replace h := h.2 hc
          refine r_iconst (pc := 55) C d_P_isFree_55 (v := 0) (by decide) ?_
          exact r_zret (pc := 56) C (Or.inl rfl) d_P_isFree_56 (by decide) (by decide) h
        · intro hc; replace h := h.1 hc
          refine r_aload_n (pc := 40) C d_P_isFree_40 rfl 0 rfl ?_
          refine r_getR (pc := 41) (ci := 1) C rfl 3 (by decide) (k_54 C.w) rfl (lay_O rfl) d_P_isFree_41 ?_
          refine r_iload_n (pc := 44) C d_P_isFree_44 rfl 1 rfl ?_
          refine r_cVi (pc := 45) (a' := 0) (b' := 0) (As := [.inl a1]) (ci := 2) C (c_S_covers C.s h) o_S_covers rfl (lay_O rfl) (k_241 C.w) rfl ⟨by decide, by decide, by decide, by decide⟩ rfl rfl (Nat.le_of_ble_eq_true rfl) d_P_isFree_45 rfl ?_
          intro r5 μ4 h
          refine r_if_ne (tgt := 55) (pc := 48) C d_P_isFree_48 (by decide) ?_ ?_
          · intro hc; replace h := h.2 hc
            refine r_iconst (pc := 55) C d_P_isFree_55 (v := 0) (by decide) ?_
            exact r_zret (pc := 56) C (Or.inl rfl) d_P_isFree_56 (by decide) (by decide) h
          · intro hc; replace h := h.1 hc
            refine r_iconst (pc := 51) C d_P_isFree_51 (v := 1) (by decide) ?_
            refine r_goto (tgt := 56) (pc := 52) C d_P_isFree_52 (by decide) ?_
            exact r_zret (pc := 56) C (Or.inr rfl) d_P_isFree_56 (by decide) (by decide) h
theorem c_S_open {l : Launch} (hl : l.stackTraces = false) {G : Gl} {x : Nat} {a1 : Int32} {a2 : Int32} {post : Mem → Prop} {μ : Mem} (h : wS_open x a1 a2 post μ) : Ct l G i_S_open [.inr (.inl (some x)), .inl a1, .inl a2] μ (poV post) noX := by
  refine ct_of hl (by decide) (Nat.le_of_ble_eq_true rfl) ?_
  intro K hKl C hE
  clear hl hKl
  replace C : Cx K G prog_6_method_2_code "LineCollector$Span" 3 { frames := 0, cells := 0, slots := 0, locals := 0 } (none) (poV post) noX := C
  show Rn K G 3 0 [(0, .inr (.inl (some x))), (1, .inl a1), (2, .inl a2)] [] μ 0 0
  unfold wS_open at h
  refine r_aload_n (pc := 0) C d_S_open_0 rfl 0 rfl ?_
  refine r_iload_n (pc := 1) C d_S_open_1 rfl 1 rfl ?_
  refine r_iconst (pc := 2) C d_S_open_2 (v := 4) (by decide) ?_
  refine r_imul (pc := 3) C d_S_open_3 ?_
  obtain ⟨o1, h⟩ := h
  refine r_putI (pc := 4) (ci := 2) C rfl 0 (by decide) (k_39 C.w) rfl rfl p_I (ok_O o1) d_S_open_4 ?_
  intro μ2 eμ2; replace h := h μ2 eμ2
  refine r_aload_n (pc := 7) C d_S_open_7 rfl 0 rfl ?_
  refine r_aload_n (pc := 8) C d_S_open_8 rfl 0 rfl ?_
  refine r_getI (pc := 9) (ci := 2) C rfl 0 (by decide) (k_39 C.w) rfl (ok_O (ok_s eμ2 o1)) d_S_open_9 ?_
  refine r_putI (pc := 12) (ci := 2) C rfl 1 (by decide) (k_40 C.w) rfl rfl p_I (ok_O (ok_s eμ2 o1)) d_S_open_12 ?_
  intro μ3 eμ3; replace h := h μ3 eμ3
  refine r_aload_n (pc := 15) C d_S_open_15 rfl 0 rfl ?_
  refine r_iload_n (pc := 16) C d_S_open_16 rfl 2 rfl ?_
  refine r_iconst (pc := 17) C d_S_open_17 (v := 4) (by decide) ?_
  refine r_imul (pc := 18) C d_S_open_18 ?_
  refine r_putI (pc := 19) (ci := 2) C rfl 2 (by decide) (k_41 C.w) rfl rfl p_I (ok_O (ok_s eμ3 (ok_s eμ2 o1))) d_S_open_19 ?_
  intro μ4 eμ4; replace h := h μ4 eμ4
  exact r_vret (pc := 22) C d_S_open_22 (by decide) (by decide) h
theorem c_P_openOverflow {l : Launch} (hl : l.stackTraces = false) {G : Gl} {post : Int32 → Mem → Prop} {μ : Mem} (h : wP_openOverflow post μ) : Ct l G i_P_openOverflow [.inr (.inl (some 4))] μ (poI post) noX := by
  refine ct_of hl (by decide) (Nat.le_of_ble_eq_true rfl) ?_
  intro K hKl C hE
  clear hl hKl
  replace C : Cx K G prog_4_method_12_code "LineCollector$Places" 4 { frames := 2, cells := 0, slots := 0, locals := 42 } (some .boolean) (poI post) noX := C
  show Rn K G 4 0 [(0, .inr (.inl (some 4)))] [] μ 0 0
  have L_14 : ∀ (l1 : Int32) (k : Int32 → Int32 → Mem → Prop), (∀ (v2 : Int32) (v3 : Int32) (μ : Mem), k v2 v3 μ → Rn K G 4 41 [(0, .inr (.inl (some 4))), (1, .inl l1), (2, .inl v2)] [] μ 0 0) → ∀ (n : Nat) (l2 : Int32) (l3 : Int32) (μ : Mem), wP_openOverflow_14 l1 k n l2 l3 μ → Rn K G 4 14 [(0, .inr (.inl (some 4))), (1, .inl l1), (2, .inl l2), (3, .inl l3)] [] μ 0 0 := by
    intro l1 k hk n
    induction n with
    | zero => intro l2 l3 μ h; exact h.elim
    | succ n ih =>
      intro l2 l3 μ h
      unfold wP_openOverflow_14 at h
      refine r_iload_n (pc := 14) C d_P_openOverflow_14 rfl 3 rfl ?_
      refine r_iload_n (pc := 15) C d_P_openOverflow_15 rfl 1 rfl ?_
      refine r_iconst (pc := 16) C d_P_openOverflow_16 (v := 1) (by decide) ?_
      refine r_iadd (pc := 17) C d_P_openOverflow_17 ?_
      refine r_bipush (pc := 18) C d_P_openOverflow_18 (v := 8) (by decide) ?_
      refine r_imul (pc := 20) C d_P_openOverflow_20 ?_
      refine r_icmp_ge (tgt := 41) (pc := 21) C d_P_openOverflow_21 (by decide) ?_ ?_
      · intro hc; replace h := h.1 hc
        refine r_sub [0, 1, 2] rfl ?_
        exact hk l2 l3 μ h
      · intro hc; replace h := h.2 hc
        refine r_aload_n (pc := 24) C d_P_openOverflow_24 rfl 0 rfl ?_
        refine r_iload_n (pc := 25) C d_P_openOverflow_25 rfl 3 rfl ?_
        refine r_cVi (pc := 26) (a' := 0) (b' := 0) (As := [.inl l3]) (ci := 1) C (c_P_isFree C.s h) o_P_isFree rfl (lay_O rfl) (k_237 C.w) rfl ⟨by decide, by decide, by decide, by decide⟩ rfl rfl (Nat.le_of_ble_eq_true rfl) d_P_openOverflow_26 rfl ?_
        intro r2 μ1 h
        refine r_if_eq (tgt := 35) (pc := 29) C d_P_openOverflow_29 (by decide) ?_ ?_
        · intro hc; replace h := h.1 hc
          refine r_iinc (pc := 35) (v := 1) (lv' := [(0, .inr (.inl (some 4))), (1, .inl l1), (2, .inl l2)]) C d_P_openOverflow_35 3 rfl (by decide) (by decide) rfl ?_
          refine r_goto (tgt := 14) (pc := 38) C d_P_openOverflow_38 (by decide) ?_
          refine r_sub [1, 2, 3, 0] rfl ?_
          exact ih l2 (l3 + 1) μ1 h
        · intro hc; replace h := h.2 hc
          refine r_iinc (pc := 32) (v := 1) (lv' := [(0, .inr (.inl (some 4))), (1, .inl l1), (3, .inl l3)]) C d_P_openOverflow_32 2 rfl (by decide) (by decide) rfl ?_
          refine r_iinc (pc := 35) (v := 1) (lv' := [(2, .inl (l2 + 1)), (0, .inr (.inl (some 4))), (1, .inl l1)]) C d_P_openOverflow_35 3 rfl (by decide) (by decide) rfl ?_
          refine r_goto (tgt := 14) (pc := 38) C d_P_openOverflow_38 (by decide) ?_
          refine r_sub [2, 3, 1, 0] rfl ?_
          exact ih (l2 + 1) (l3 + 1) μ1 h
  have L_2 : ∀ (k : Int32 → Mem → Prop), (∀ (v1 : Int32) (μ : Mem), k v1 μ → Rn K G 4 72 [] [] μ 0 0) → ∀ (n : Nat) (l1 : Int32) (μ : Mem), wP_openOverflow_2 k post n l1 μ → Rn K G 4 2 [(0, .inr (.inl (some 4))), (1, .inl l1)] [] μ 0 0 := by
    intro k hk n
    induction n with
    | zero => intro l1 μ h; exact h.elim
    | succ n ih =>
      intro l1 μ h
      unfold wP_openOverflow_2 at h
      refine r_iload_n (pc := 2) C d_P_openOverflow_2 rfl 1 rfl ?_
      refine r_iconst (pc := 3) C d_P_openOverflow_3 (v := 4) (by decide) ?_
      refine r_icmp_ge (tgt := 72) (pc := 4) C d_P_openOverflow_4 (by decide) ?_ ?_
      · intro hc; replace h := h.1 hc
        refine r_sub [] rfl ?_
        exact hk l1 μ h
      · intro hc; replace h := h.2 hc
        refine r_iconst (pc := 7) C d_P_openOverflow_7 (v := 0) (by decide) ?_
        refine r_istore_n (pc := 8) (lv' := [(0, .inr (.inl (some 4))), (1, .inl l1)]) C d_P_openOverflow_8 rfl (by decide) rfl ?_
        refine r_iload_n (pc := 9) C d_P_openOverflow_9 rfl 2 rfl ?_
        refine r_bipush (pc := 10) C d_P_openOverflow_10 (v := 8) (by decide) ?_
        refine r_imul (pc := 12) C d_P_openOverflow_12 ?_
        refine r_istore_n (pc := 13) (lv' := [(2, .inl 0), (0, .inr (.inl (some 4))), (1, .inl l1)]) C d_P_openOverflow_13 rfl (by decide) rfl ?_
        obtain ⟨n7, h⟩ := h
        refine r_sub [2, 3, 1, 0] rfl ?_
        refine L_14 l1 _ ?_ n7 0 (l1 * 8) μ h
        intro v4 v5 μ3 h
        refine r_iload_n (pc := 41) C d_P_openOverflow_41 rfl 2 rfl ?_
        refine r_bipush (pc := 42) C d_P_openOverflow_42 (v := 8) (by decide) ?_
        refine r_icmp_ne (tgt := 66) (pc := 44) C d_P_openOverflow_44 (by decide) ?_ ?_
        · intro hc; replace h := h.2 hc
          refine r_iinc (pc := 66) (v := 1) (lv' := [(0, .inr (.inl (some 4))), (2, .inl v4)]) C d_P_openOverflow_66 1 rfl (by decide) (by decide) rfl ?_
          refine r_goto (tgt := 2) (pc := 69) C d_P_openOverflow_69 (by decide) ?_
          refine r_sub [1, 0] rfl ?_
          exact ih (l1 + 1) μ3 h
        · intro hc; replace h := h.1 hc
          refine r_aload_n (pc := 47) C d_P_openOverflow_47 rfl 0 rfl ?_
          refine r_getR (pc := 48) (ci := 1) C rfl 3 (by decide) (k_54 C.w) rfl (lay_O rfl) d_P_openOverflow_48 ?_
          refine r_iload_n (pc := 51) C d_P_openOverflow_51 rfl 1 rfl ?_
          refine r_bipush (pc := 52) C d_P_openOverflow_52 (v := 8) (by decide) ?_
          refine r_imul (pc := 54) C d_P_openOverflow_54 ?_
          refine r_iload_n (pc := 55) C d_P_openOverflow_55 rfl 1 rfl ?_
          refine r_iconst (pc := 56) C d_P_openOverflow_56 (v := 1) (by decide) ?_
          refine r_iadd (pc := 57) C d_P_openOverflow_57 ?_
          refine r_bipush (pc := 58) C d_P_openOverflow_58 (v := 8) (by decide) ?_
          refine r_imul (pc := 60) C d_P_openOverflow_60 ?_
          refine r_cVv (pc := 61) (a' := 0) (b' := 0) (As := [.inl (l1 * 8), .inl ((l1 + 1) * 8)]) (ci := 2) C (c_S_open C.s h) o_S_open rfl (lay_O rfl) (k_185 C.w) rfl ⟨by decide, by decide, by decide, by decide⟩ rfl rfl (Nat.le_of_ble_eq_true rfl) d_P_openOverflow_61 rfl ?_
          intro μ6 h
          refine r_iconst (pc := 64) C d_P_openOverflow_64 (v := 1) (by decide) ?_
          exact r_zret (pc := 65) C (Or.inr rfl) d_P_openOverflow_65 (by decide) (by decide) h
  unfold wP_openOverflow at h
  refine r_iconst (pc := 0) C d_P_openOverflow_0 (v := 0) (by decide) ?_
  refine r_istore_n (pc := 1) (lv' := [(0, .inr (.inl (some 4)))]) C d_P_openOverflow_1 rfl (by decide) rfl ?_
  obtain ⟨n10, h⟩ := h
  refine r_sub [1, 0] rfl ?_
  refine L_2 _ ?_ n10 0 μ h
  intro v9 μ8 h
  refine r_iconst (pc := 72) C d_P_openOverflow_72 (v := 0) (by decide) ?_
  exact r_zret (pc := 73) C (Or.inl rfl) d_P_openOverflow_73 (by decide) (by decide) h
theorem c_S_endLine {l : Launch} (hl : l.stackTraces = false) {G : Gl} {x : Nat} {post : Int32 → Mem → Prop} {μ : Mem} (h : wS_endLine x post μ) : Ct l G i_S_endLine [.inr (.inl (some x))] μ (poI post) noX := by
  refine ct_of hl (by decide) (Nat.le_of_ble_eq_true rfl) ?_
  intro K hKl C hE
  clear hl hKl
  replace C : Cx K G prog_6_method_6_code "LineCollector$Span" 1 { frames := 0, cells := 0, slots := 0, locals := 0 } (some .int) (poI post) noX := C
  show Rn K G 1 0 [(0, .inr (.inl (some x)))] [] μ 0 0
  unfold wS_endLine at h
  refine r_aload_n (pc := 0) C d_S_endLine_0 rfl 0 rfl ?_
  obtain ⟨o1, h⟩ := h
  refine r_getI (pc := 1) (ci := 2) C rfl 2 (by decide) (k_41 C.w) rfl (ok_O o1) d_S_endLine_1 ?_
  refine r_iconst (pc := 4) C d_S_endLine_4 (v := 4) (by decide) ?_
  refine r_idiv (pc := 5) C d_S_endLine_5 (by decide) ?_
  exact r_iret (pc := 6) C d_S_endLine_6 (by decide) (by decide) h
theorem c_P_openHole {l : Launch} (hl : l.stackTraces = false) {G : Gl} {post : Int32 → Mem → Prop} {μ : Mem} (h : wP_openHole post μ) : Ct l G i_P_openHole [.inr (.inl (some 4))] μ (poI post) noX := by
  refine ct_of hl (by decide) (Nat.le_of_ble_eq_true rfl) ?_
  intro K hKl C hE
  clear hl hKl
  replace C : Cx K G prog_4_method_11_code "LineCollector$Places" 6 { frames := 2, cells := 0, slots := 0, locals := 42 } (some .boolean) (poI post) noX := C
  show Rn K G 6 0 [(0, .inr (.inl (some 4)))] [] μ 0 0
  have L_47 : ∀ (l4 : Int32) (l3 : Int32) (k : Int32 → Mem → Prop), (∀ (v5 : Int32) (μ : Mem), k v5 μ → Rn K G 6 69 [(0, .inr (.inl (some 4))), (3, .inl l3), (5, .inl v5)] [] μ 0 0) → ∀ (n : Nat) (l5 : Int32) (μ : Mem), wP_openHole_47 l4 k n l5 μ → Rn K G 6 47 [(0, .inr (.inl (some 4))), (3, .inl l3), (4, .inl l4), (5, .inl l5)] [] μ 0 0 := by
    intro l4 l3 k hk n
    induction n with
    | zero => intro l5 μ h; exact h.elim
    | succ n ih =>
      intro l5 μ h
      unfold wP_openHole_47 at h
      refine r_iload (pc := 47) C d_P_openHole_47 3 rfl ?_
      refine r_iload (pc := 49) C d_P_openHole_49 2 rfl ?_
      refine r_icmp_ge (tgt := 69) (pc := 51) C d_P_openHole_51 (by decide) ?_ ?_
      · intro hc; replace h := h.1 hc
        refine r_sub [0, 1, 3] rfl ?_
        exact hk l5 μ h
      · intro hc; replace h := h.2 hc
        refine r_aload_n (pc := 54) C d_P_openHole_54 rfl 0 rfl ?_
        refine r_iload (pc := 55) C d_P_openHole_55 3 rfl ?_
        refine r_cVi (pc := 57) (a' := 0) (b' := 0) (As := [.inl l5]) (ci := 1) C (c_P_isFree C.s h) o_P_isFree rfl (lay_O rfl) (k_237 C.w) rfl ⟨by decide, by decide, by decide, by decide⟩ rfl rfl (Nat.le_of_ble_eq_true rfl) d_P_openHole_57 rfl ?_
        intro r6 μ5 h
        refine r_if_eq (tgt := 69) (pc := 60) C d_P_openHole_60 (by decide) ?_ ?_
        · intro hc; replace h := h.1 hc
          refine r_sub [0, 1, 3] rfl ?_
          exact hk l5 μ5 h
        · intro hc; replace h := h.2 hc
          refine r_iinc (pc := 63) (v := 1) (lv' := [(0, .inr (.inl (some 4))), (3, .inl l3), (4, .inl l4)]) C d_P_openHole_63 3 rfl (by decide) (by decide) rfl ?_
          refine r_goto (tgt := 47) (pc := 66) C d_P_openHole_66 (by decide) ?_
          refine r_sub [1, 2, 3, 0] rfl ?_
          exact ih (l5 + 1) μ5 h
  have L_10 : ∀ (l1 : Int32) (k : Int32 → Mem → Prop), (∀ (v2 : Int32) (μ : Mem), k v2 μ → Rn K G 6 87 [] [] μ 0 0) → ∀ (n : Nat) (l2 : Int32) (μ : Mem), wP_openHole_10 l1 k post n l2 μ → Rn K G 6 10 [(0, .inr (.inl (some 4))), (1, .inl l1), (2, .inl l2)] [] μ 0 0 := by
    intro l1 k hk n
    induction n with
    | zero => intro l2 μ h; exact h.elim
    | succ n ih =>
      intro l2 μ h
      unfold wP_openHole_10 at h
      refine r_iload_n (pc := 10) C d_P_openHole_10 rfl 2 rfl ?_
      refine r_bipush (pc := 11) C d_P_openHole_11 (v := 32) (by decide) ?_
      refine r_icmp_ge (tgt := 87) (pc := 13) C d_P_openHole_13 (by decide) ?_ ?_
      · intro hc; replace h := h.1 hc
        refine r_sub [] rfl ?_
        exact hk l2 μ h
      · intro hc; replace h := h.2 hc
        refine r_iload_n (pc := 16) C d_P_openHole_16 rfl 1 rfl ?_
        refine r_iload_n (pc := 17) C d_P_openHole_17 rfl 2 rfl ?_
        refine r_iadd (pc := 18) C d_P_openHole_18 ?_
        refine r_bipush (pc := 19) C d_P_openHole_19 (v := 32) (by decide) ?_
        refine r_irem (pc := 21) C d_P_openHole_21 (by decide) ?_
        refine r_istore_n (pc := 22) (lv' := [(0, .inr (.inl (some 4))), (1, .inl l1), (2, .inl l2)]) C d_P_openHole_22 rfl (by decide) rfl ?_
        refine r_aload_n (pc := 23) C d_P_openHole_23 rfl 1 rfl ?_
        refine r_iload_n (pc := 24) C d_P_openHole_24 rfl 0 rfl ?_
        refine r_cVi (pc := 25) (a' := 0) (b' := 0) (As := [.inl ((l1 + l2) - (l1 + l2) / 32 * 32)]) (ci := 1) C (c_P_isFree C.s h) o_P_isFree rfl (lay_O rfl) (k_237 C.w) rfl ⟨by decide, by decide, by decide, by decide⟩ rfl rfl (Nat.le_of_ble_eq_true rfl) d_P_openHole_25 rfl ?_
        intro r4 μ3 h
        refine r_if_eq (tgt := 81) (pc := 28) C d_P_openHole_28 (by decide) ?_ ?_
        · intro hc; replace h := h.1 hc
          refine r_iinc (pc := 81) (v := 1) (lv' := [(3, .inl ((l1 + l2) - (l1 + l2) / 32 * 32)), (0, .inr (.inl (some 4))), (1, .inl l1)]) C d_P_openHole_81 3 rfl (by decide) (by decide) rfl ?_
          refine r_goto (tgt := 10) (pc := 84) C d_P_openHole_84 (by decide) ?_
          refine r_sub [2, 3, 0] rfl ?_
          exact ih (l2 + 1) μ3 h
        · intro hc; replace h := h.2 hc
          refine r_iload_n (pc := 31) C d_P_openHole_31 rfl 0 rfl ?_
          refine r_bipush (pc := 32) C d_P_openHole_32 (v := 8) (by decide) ?_
          refine r_idiv (pc := 34) C d_P_openHole_34 (by decide) ?_
          refine r_iconst (pc := 35) C d_P_openHole_35 (v := 1) (by decide) ?_
          refine r_iadd (pc := 36) C d_P_openHole_36 ?_
          refine r_bipush (pc := 37) C d_P_openHole_37 (v := 8) (by decide) ?_
          refine r_imul (pc := 39) C d_P_openHole_39 ?_
          refine r_istore (pc := 40) (lv' := [(3, .inl ((l1 + l2) - (l1 + l2) / 32 * 32)), (0, .inr (.inl (some 4))), (1, .inl l1), (2, .inl l2)]) C d_P_openHole_40 (by decide) rfl ?_
          refine r_iload_n (pc := 42) C d_P_openHole_42 rfl 1 rfl ?_
          refine r_iconst (pc := 43) C d_P_openHole_43 (v := 1) (by decide) ?_
          refine r_iadd (pc := 44) C d_P_openHole_44 ?_
          refine r_istore (pc := 45) (lv' := [(4, .inl (((((l1 + l2) - (l1 + l2) / 32 * 32) / 8) + 1) * 8)), (3, .inl ((l1 + l2) - (l1 + l2) / 32 * 32)), (0, .inr (.inl (some 4))), (1, .inl l1), (2, .inl l2)]) C d_P_openHole_45 (by decide) rfl ?_
          obtain ⟨n10, h⟩ := h
          refine r_sub [3, 2, 1, 0] rfl ?_
          refine L_47 (((((l1 + l2) - (l1 + l2) / 32 * 32) / 8) + 1) * 8) ((l1 + l2) - (l1 + l2) / 32 * 32) _ ?_ n10 (((l1 + l2) - (l1 + l2) / 32 * 32) + 1) μ3 h
          intro v8 μ7 h
          refine r_aload_n (pc := 69) C d_P_openHole_69 rfl 0 rfl ?_
          refine r_getR (pc := 70) (ci := 1) C rfl 2 (by decide) (k_53 C.w) rfl (lay_O rfl) d_P_openHole_70 ?_
          refine r_iload_n (pc := 73) C d_P_openHole_73 rfl 1 rfl ?_
          refine r_iload (pc := 74) C d_P_openHole_74 2 rfl ?_
          refine r_cVv (pc := 76) (a' := 0) (b' := 0) (As := [.inl ((l1 + l2) - (l1 + l2) / 32 * 32), .inl v8]) (ci := 2) C (c_S_open C.s h) o_S_open rfl (lay_O rfl) (k_185 C.w) rfl ⟨by decide, by decide, by decide, by decide⟩ rfl rfl (Nat.le_of_ble_eq_true rfl) d_P_openHole_76 rfl ?_
          intro μ9 h
          refine r_iconst (pc := 79) C d_P_openHole_79 (v := 1) (by decide) ?_
          exact r_zret (pc := 80) C (Or.inr rfl) d_P_openHole_80 (by decide) (by decide) h
  unfold wP_openHole at h
  refine r_aload_n (pc := 0) C d_P_openHole_0 rfl 0 rfl ?_
  refine r_getR (pc := 1) (ci := 1) C rfl 2 (by decide) (k_53 C.w) rfl (lay_O rfl) d_P_openHole_1 ?_
  refine r_cVi (pc := 4) (a' := 0) (b' := 0) (As := []) (ci := 2) C (c_S_endLine C.s h) o_S_endLine rfl (lay_O rfl) (k_233 C.w) rfl ⟨by decide, by decide, by decide, by decide⟩ rfl rfl (Nat.le_of_ble_eq_true rfl) d_P_openHole_4 rfl ?_
  intro r2 μ1 h
  refine r_istore_n (pc := 7) (lv' := [(0, .inr (.inl (some 4)))]) C d_P_openHole_7 rfl (by decide) rfl ?_
  refine r_iconst (pc := 8) C d_P_openHole_8 (v := 0) (by decide) ?_
  refine r_istore_n (pc := 9) (lv' := [(1, .inl r2), (0, .inr (.inl (some 4)))]) C d_P_openHole_9 rfl (by decide) rfl ?_
  obtain ⟨n13, h⟩ := h
  refine r_sub [2, 1, 0] rfl ?_
  refine L_10 r2 _ ?_ n13 0 μ1 h
  intro v12 μ11 h
  refine r_iconst (pc := 87) C d_P_openHole_87 (v := 0) (by decide) ?_
  exact r_zret (pc := 88) C (Or.inl rfl) d_P_openHole_88 (by decide) (by decide) h
theorem c_P_find {l : Launch} (hl : l.stackTraces = false) {G : Gl} {a1 : Int32} {post : Int32 → Mem → Prop} {μ : Mem} (h : wP_find a1 post μ) : Ct l G i_P_find [.inr (.inl (some 4)), .inl a1] μ (poI post) noX := by
  refine ct_of hl (by decide) (Nat.le_of_ble_eq_true rfl) ?_
  intro K hKl C hE
  clear hl hKl
  replace C : Cx K G prog_4_method_10_code "LineCollector$Places" 2 { frames := 3, cells := 0, slots := 0, locals := 67 } (some .int) (poI post) noX := C
  show Rn K G 2 0 [(0, .inr (.inl (some 4))), (1, .inl a1)] [] μ 0 0
  unfold wP_find at h
  refine r_aload_n (pc := 0) C d_P_find_0 rfl 0 rfl ?_
  refine r_getR (pc := 1) (ci := 1) C rfl 2 (by decide) (k_53 C.w) rfl (lay_O rfl) d_P_find_1 ?_
  refine r_iload_n (pc := 4) C d_P_find_4 rfl 1 rfl ?_
  refine r_cVi (pc := 5) (a' := 0) (b' := 0) (As := [.inl a1]) (ci := 2) C (c_S_has C.s h) o_S_has rfl (lay_O rfl) (k_221 C.w) rfl ⟨by decide, by decide, by decide, by decide⟩ rfl rfl (Nat.le_of_ble_eq_true rfl) d_P_find_5 rfl ?_
  intro r2 μ1 h
  refine r_if_eq (tgt := 20) (pc := 8) C d_P_find_8 (by decide) ?_ ?_
  · intro hc; replace h := h.1 hc
    refine r_iload_n (pc := 20) C d_P_find_20 rfl 1 rfl ?_
    refine r_iconst (pc := 21) C d_P_find_21 (v := 4) (by decide) ?_
    refine r_icmp_gt (tgt := 45) (pc := 22) C d_P_find_22 (by decide) ?_ ?_
    · intro hc; replace h := h.1 hc
      refine r_aload_n (pc := 45) C d_P_find_45 rfl 0 rfl ?_
      refine r_getR (pc := 46) (ci := 1) C rfl 3 (by decide) (k_54 C.w) rfl (lay_O rfl) d_P_find_46 ?_
      refine r_iload_n (pc := 49) C d_P_find_49 rfl 1 rfl ?_
      refine r_cVi (pc := 50) (a' := 0) (b' := 0) (As := [.inl a1]) (ci := 2) C (c_S_has C.s h) o_S_has rfl (lay_O rfl) (k_221 C.w) rfl ⟨by decide, by decide, by decide, by decide⟩ rfl rfl (Nat.le_of_ble_eq_true rfl) d_P_find_50 rfl ?_
      intro r4 μ3 h
      refine r_if_ne (tgt := 63) (pc := 53) C d_P_find_53 (by decide) ?_ ?_
      · intro hc; replace h := h.2 hc
        refine r_aload_n (pc := 63) C d_P_find_63 rfl 0 rfl ?_
        refine r_getR (pc := 64) (ci := 1) C rfl 3 (by decide) (k_54 C.w) rfl (lay_O rfl) d_P_find_64 ?_
        refine r_iload_n (pc := 67) C d_P_find_67 rfl 1 rfl ?_
        refine r_cVi (pc := 68) (a' := 0) (b' := 0) (As := [.inl a1]) (ci := 2) C (c_S_take C.s h) o_S_take rfl (lay_O rfl) (k_225 C.w) rfl ⟨by decide, by decide, by decide, by decide⟩ rfl rfl (Nat.le_of_ble_eq_true rfl) d_P_find_68 rfl ?_
        intro r6 μ5 h
        exact r_iret (pc := 71) C d_P_find_71 (by decide) (by decide) h
      · intro hc; replace h := h.1 hc
        refine r_aload_n (pc := 56) C d_P_find_56 rfl 0 rfl ?_
        refine r_cVi (pc := 57) (a' := 0) (b' := 0) (As := []) (ci := 1) C (c_P_openOverflow C.s h) o_P_openOverflow rfl (lay_O rfl) (k_245 C.w) rfl ⟨by decide, by decide, by decide, by decide⟩ rfl rfl (Nat.le_of_ble_eq_true rfl) d_P_find_57 rfl ?_
        intro r8 μ7 h
        refine r_if_eq (tgt := 72) (pc := 60) C d_P_find_60 (by decide) ?_ ?_
        · intro hc; replace h := h.1 hc
          refine r_iconst (pc := 72) C d_P_find_72 (v := (-1)) (by decide) ?_
          exact r_iret (pc := 73) C d_P_find_73 (by decide) (by decide) h
        · intro hc; replace h := h.2 hc
          refine r_aload_n (pc := 63) C d_P_find_63 rfl 0 rfl ?_
          refine r_getR (pc := 64) (ci := 1) C rfl 3 (by decide) (k_54 C.w) rfl (lay_O rfl) d_P_find_64 ?_
          refine r_iload_n (pc := 67) C d_P_find_67 rfl 1 rfl ?_
          refine r_cVi (pc := 68) (a' := 0) (b' := 0) (As := [.inl a1]) (ci := 2) C (c_S_take C.s h) o_S_take rfl (lay_O rfl) (k_225 C.w) rfl ⟨by decide, by decide, by decide, by decide⟩ rfl rfl (Nat.le_of_ble_eq_true rfl) d_P_find_68 rfl ?_
          intro r10 μ9 h
          exact r_iret (pc := 71) C d_P_find_71 (by decide) (by decide) h
    · intro hc; replace h := h.2 hc
      refine r_aload_n (pc := 25) C d_P_find_25 rfl 0 rfl ?_
      refine r_cVi (pc := 26) (a' := 0) (b' := 0) (As := []) (ci := 1) C (c_P_openHole C.s h) o_P_openHole rfl (lay_O rfl) (k_229 C.w) rfl ⟨by decide, by decide, by decide, by decide⟩ rfl rfl (Nat.le_of_ble_eq_true rfl) d_P_find_26 rfl ?_
      intro r12 μ11 h
      refine r_if_eq (tgt := 43) (pc := 29) C d_P_find_29 (by decide) ?_ ?_
      · intro hc; replace h := h.1 hc
        refine r_iconst (pc := 43) C d_P_find_43 (v := (-1)) (by decide) ?_
        exact r_iret (pc := 44) C d_P_find_44 (by decide) (by decide) h
      · intro hc; replace h := h.2 hc
        refine r_aload_n (pc := 32) C d_P_find_32 rfl 0 rfl ?_
        refine r_getR (pc := 33) (ci := 1) C rfl 2 (by decide) (k_53 C.w) rfl (lay_O rfl) d_P_find_33 ?_
        refine r_iload_n (pc := 36) C d_P_find_36 rfl 1 rfl ?_
        refine r_cVi (pc := 37) (a' := 0) (b' := 0) (As := [.inl a1]) (ci := 2) C (c_S_take C.s h) o_S_take rfl (lay_O rfl) (k_225 C.w) rfl ⟨by decide, by decide, by decide, by decide⟩ rfl rfl (Nat.le_of_ble_eq_true rfl) d_P_find_37 rfl ?_
        intro r14 μ13 h
        refine r_goto (tgt := 44) (pc := 40) C d_P_find_40 (by decide) ?_
        exact r_iret (pc := 44) C d_P_find_44 (by decide) (by decide) h
  · intro hc; replace h := h.2 hc
    refine r_aload_n (pc := 11) C d_P_find_11 rfl 0 rfl ?_
    refine r_getR (pc := 12) (ci := 1) C rfl 2 (by decide) (k_53 C.w) rfl (lay_O rfl) d_P_find_12 ?_
    refine r_iload_n (pc := 15) C d_P_find_15 rfl 1 rfl ?_
    refine r_cVi (pc := 16) (a' := 0) (b' := 0) (As := [.inl a1]) (ci := 2) C (c_S_take C.s h) o_S_take rfl (lay_O rfl) (k_225 C.w) rfl ⟨by decide, by decide, by decide, by decide⟩ rfl rfl (Nat.le_of_ble_eq_true rfl) d_P_find_16 rfl ?_
    intro r16 μ15 h
    exact r_iret (pc := 19) C d_P_find_19 (by decide) (by decide) h
theorem c_P_occupy {l : Launch} (hl : l.stackTraces = false) {G : Gl} {a1 : Int32} {a2 : Int32} {post : Mem → Prop} {μ : Mem} (h : wP_occupy a1 a2 post μ) : Ct l G i_P_occupy [.inr (.inl (some 4)), .inl a1, .inl a2] μ (poV post) noX := by
  refine ct_of hl (by decide) (Nat.le_of_ble_eq_true rfl) ?_
  intro K hKl C hE
  clear hl hKl
  replace C : Cx K G prog_4_method_4_code "LineCollector$Places" 4 { frames := 0, cells := 0, slots := 0, locals := 0 } (none) (poV post) noX := C
  show Rn K G 4 0 [(0, .inr (.inl (some 4))), (1, .inl a1), (2, .inl a2)] [] μ 0 0
  have L_2 : ∀ (l1 : Int32) (l2 : Int32) (k : Int32 → Mem → Prop), (∀ (v3 : Int32) (μ : Mem), k v3 μ → Rn K G 4 27 [] [] μ 0 0) → ∀ (n : Nat) (l3 : Int32) (μ : Mem), wP_occupy_2 l1 l2 k n l3 μ → Rn K G 4 2 [(0, .inr (.inl (some 4))), (1, .inl l1), (2, .inl l2), (3, .inl l3)] [] μ 0 0 := by
    intro l1 l2 k hk n
    induction n with
    | zero => intro l3 μ h; exact h.elim
    | succ n ih =>
      intro l3 μ h
      unfold wP_occupy_2 at h
      refine r_iload_n (pc := 2) C d_P_occupy_2 rfl 3 rfl ?_
      refine r_iload_n (pc := 3) C d_P_occupy_3 rfl 1 rfl ?_
      refine r_iload_n (pc := 4) C d_P_occupy_4 rfl 2 rfl ?_
      refine r_iadd (pc := 5) C d_P_occupy_5 ?_
      refine r_icmp_ge (tgt := 27) (pc := 6) C d_P_occupy_6 (by decide) ?_ ?_
      · intro hc; replace h := h.1 hc
        refine r_sub [] rfl ?_
        exact hk l3 μ h
      · intro hc; replace h := h.2 hc
        refine r_aload_n (pc := 9) C d_P_occupy_9 rfl 0 rfl ?_
        refine r_getR (pc := 10) (ci := 1) C rfl 0 (by decide) (k_51 C.w) rfl (lay_O rfl) d_P_occupy_10 ?_
        refine r_iload_n (pc := 13) C d_P_occupy_13 rfl 3 rfl ?_
        refine r_iconst (pc := 14) C d_P_occupy_14 (v := 4) (by decide) ?_
        refine r_idiv (pc := 15) C d_P_occupy_15 (by decide) ?_
        refine r_dup2 (pc := 16) C d_P_occupy_16 ?_
        obtain ⟨b1, h⟩ := h
        refine r_iald (pc := 17) C (lay_A rfl) b1 d_P_occupy_17 ?_
        refine r_iconst (pc := 18) C d_P_occupy_18 (v := 1) (by decide) ?_
        refine r_iadd (pc := 19) C d_P_occupy_19 ?_
        refine r_iast (pc := 20) C (lay_A rfl) b1 d_P_occupy_20 ?_
        intro μ2 eμ2; replace h := h μ2 eμ2
        refine r_iinc (pc := 21) (v := 1) (lv' := [(0, .inr (.inl (some 4))), (1, .inl l1), (2, .inl l2)]) C d_P_occupy_21 3 rfl (by decide) (by decide) rfl ?_
        refine r_goto (tgt := 2) (pc := 24) C d_P_occupy_24 (by decide) ?_
        refine r_sub [1, 2, 3, 0] rfl ?_
        exact ih (l3 + 1) μ2 h
  unfold wP_occupy at h
  refine r_iload_n (pc := 0) C d_P_occupy_0 rfl 1 rfl ?_
  refine r_istore_n (pc := 1) (lv' := [(0, .inr (.inl (some 4))), (1, .inl a1), (2, .inl a2)]) C d_P_occupy_1 rfl (by decide) rfl ?_
  obtain ⟨n5, h⟩ := h
  refine r_sub [1, 2, 3, 0] rfl ?_
  refine L_2 a1 a2 _ ?_ n5 a1 μ h
  intro v4 μ3 h
  exact r_vret (pc := 27) C d_P_occupy_27 (by decide) (by decide) h
theorem c_C_settle {l : Launch} (hl : l.stackTraces = false) {G : Gl} {a1 : Nat} {a2 : Int32} {post : Mem → Prop} {μ : Mem} (h : wC_settle a1 a2 post μ) : Ct l G i_C_settle [.inr (.inl (some 0)), .inr (.inl (some a1)), .inl a2] μ (poV post) noX := by
  refine ct_of hl (by decide) (Nat.le_of_ble_eq_true rfl) ?_
  intro K hKl C hE
  clear hl hKl
  replace C : Cx K G prog_1_method_22_code "LineCollector" 3 { frames := 1, cells := 0, slots := 0, locals := 23 } (none) (poV post) noX := C
  show Rn K G 3 0 [(0, .inr (.inl (some 0))), (1, .inr (.inl (some a1))), (2, .inl a2)] [] μ 0 0
  unfold wC_settle at h
  refine r_aload_n (pc := 0) C d_C_settle_0 rfl 1 rfl ?_
  refine r_iload_n (pc := 1) C d_C_settle_1 rfl 2 rfl ?_
  obtain ⟨o1, h⟩ := h
  refine r_putI (pc := 2) (ci := 5) C rfl 4 (by decide) (k_470 C.w) rfl rfl p_I (ok_O o1) d_C_settle_2 ?_
  intro μ2 eμ2; replace h := h μ2 eμ2
  refine r_aload_n (pc := 5) C d_C_settle_5 rfl 0 rfl ?_
  refine r_getR (pc := 6) (ci := 0) C rfl 2 (by decide) (k_108 C.w) rfl (lay_O rfl) d_C_settle_6 ?_
  refine r_iload_n (pc := 9) C d_C_settle_9 rfl 2 rfl ?_
  refine r_aload_n (pc := 10) C d_C_settle_10 rfl 1 rfl ?_
  obtain ⟨b3, h⟩ := h
  refine r_aast (pc := 11) C (lay_A rfl) b3 d_C_settle_11 (fun y hy => by cases hy; exact (ok_s eμ2 o1)) ?_
  intro μ4 eμ4; replace h := h μ4 eμ4
  refine r_aload_n (pc := 12) C d_C_settle_12 rfl 0 rfl ?_
  refine r_getR (pc := 13) (ci := 0) C rfl 3 (by decide) (k_109 C.w) rfl (lay_O rfl) d_C_settle_13 ?_
  refine r_iload_n (pc := 16) C d_C_settle_16 rfl 2 rfl ?_
  refine r_aload_n (pc := 17) C d_C_settle_17 rfl 1 rfl ?_
  refine r_getI (pc := 18) (ci := 5) C rfl 0 (by decide) (k_461 C.w) rfl (ok_O (ok_t eμ4 (ok_s eμ2 o1))) d_C_settle_18 ?_
  refine r_cVv (pc := 21) (a' := 0) (b' := 0) (As := [.inl a2, .inl (mI μ4 a1 0)]) (ci := 1) C (c_P_occupy C.s h) o_P_occupy rfl (lay_O rfl) (k_261 C.w) rfl ⟨by decide, by decide, by decide, by decide⟩ rfl rfl (Nat.le_of_ble_eq_true rfl) d_C_settle_21 rfl ?_
  intro μ5 h
  exact r_vret (pc := 24) C d_C_settle_24 (by decide) (by decide) h
theorem c_W_takeFirst {l : Launch} (hl : l.stackTraces = false) {G : Gl} {x : Nat} {post : Option Nat → Mem → Prop} {μ : Mem} (h : wW_takeFirst x post μ) : Ct l G i_W_takeFirst [.inr (.inl (some x))] μ (poQ G post) noX := by
  refine ct_of hl (by decide) (Nat.le_of_ble_eq_true rfl) ?_
  intro K hKl C hE
  clear hl hKl
  replace C : Cx K G prog_5_method_4_code "LineCollector$Row" 2 { frames := 0, cells := 0, slots := 0, locals := 0 } (some (.object "LineCollector$Item")) (poQ G post) noX := C
  show Rn K G 2 0 [(0, .inr (.inl (some x)))] [] μ 0 0
  unfold wW_takeFirst at h
  refine r_aload_n (pc := 0) C d_W_takeFirst_0 rfl 0 rfl ?_
  obtain ⟨o1, h⟩ := h
  refine r_getI (pc := 1) (ci := 4) C rfl 2 (by decide) (k_97 C.w) rfl (ok_O o1) d_W_takeFirst_1 ?_
  refine r_if_ne (tgt := 9) (pc := 4) C d_W_takeFirst_4 (by decide) ?_ ?_
  · intro hc; replace h := h.2 hc
    refine r_aload_n (pc := 9) C d_W_takeFirst_9 rfl 0 rfl ?_
    refine r_getR (pc := 10) (ci := 4) C rfl 0 (by decide) (k_95 C.w) rfl (ok_O o1) d_W_takeFirst_10 ?_
    refine r_aload_n (pc := 13) C d_W_takeFirst_13 rfl 0 rfl ?_
    refine r_getI (pc := 14) (ci := 4) C rfl 1 (by decide) (k_96 C.w) rfl (ok_O o1) d_W_takeFirst_14 ?_
    obtain ⟨o2, h⟩ := h
    obtain ⟨b3, h⟩ := h
    refine r_aald (pc := 17) C (ok_A o2) b3 d_W_takeFirst_17 ?_
    intro e4 he4; replace h := h e4 he4
    refine r_astore_n (pc := 18) (lv' := [(0, .inr (.inl (some x)))]) C d_W_takeFirst_18 rfl (by decide) rfl ?_
    refine r_aload_n (pc := 19) C d_W_takeFirst_19 rfl 1 rfl ?_
    refine r_aload_n (pc := 20) C d_W_takeFirst_20 rfl 1 rfl ?_
    refine r_getI (pc := 21) (ci := 4) C rfl 1 (by decide) (k_96 C.w) rfl (ok_O o1) d_W_takeFirst_21 ?_
    refine r_iconst (pc := 24) C d_W_takeFirst_24 (v := 1) (by decide) ?_
    refine r_iadd (pc := 25) C d_W_takeFirst_25 ?_
    refine r_sipush (pc := 26) C d_W_takeFirst_26 (v := 262) (by decide) ?_
    refine r_irem (pc := 29) C d_W_takeFirst_29 (by decide) ?_
    refine r_putI (pc := 30) (ci := 4) C rfl 1 (by decide) (k_96 C.w) rfl rfl p_I (ok_O o1) d_W_takeFirst_30 ?_
    intro μ5 eμ5; replace h := h μ5 eμ5
    refine r_aload_n (pc := 33) C d_W_takeFirst_33 rfl 1 rfl ?_
    refine r_dupR (pc := 34) C d_W_takeFirst_34 ?_
    refine r_getI (pc := 35) (ci := 4) C rfl 2 (by decide) (k_97 C.w) rfl (ok_O (ok_s eμ5 o1)) d_W_takeFirst_35 ?_
    refine r_iconst (pc := 38) C d_W_takeFirst_38 (v := 1) (by decide) ?_
    refine r_isub (pc := 39) C d_W_takeFirst_39 ?_
    refine r_putI (pc := 40) (ci := 4) C rfl 2 (by decide) (k_97 C.w) rfl rfl p_I (ok_O (ok_s eμ5 o1)) d_W_takeFirst_40 ?_
    intro μ6 eμ6; replace h := h μ6 eμ6
    refine r_aload_n (pc := 43) C d_W_takeFirst_43 rfl 0 rfl ?_
    exact r_aret (pc := 44) C d_W_takeFirst_44 (by decide) (by decide) h
  · intro hc; replace h := h.1 hc
    refine r_null (pc := 7) C d_W_takeFirst_7 ?_
    exact r_aret (pc := 8) C d_W_takeFirst_8 (by decide) (by decide) h
theorem c_P_vacate {l : Launch} (hl : l.stackTraces = false) {G : Gl} {a1 : Int32} {a2 : Int32} {post : Mem → Prop} {μ : Mem} (h : wP_vacate a1 a2 post μ) : Ct l G i_P_vacate [.inr (.inl (some 4)), .inl a1, .inl a2] μ (poV post) noX := by
  refine ct_of hl (by decide) (Nat.le_of_ble_eq_true rfl) ?_
  intro K hKl C hE
  clear hl hKl
  replace C : Cx K G prog_4_method_5_code "LineCollector$Places" 4 { frames := 0, cells := 0, slots := 0, locals := 0 } (none) (poV post) noX := C
  show Rn K G 4 0 [(0, .inr (.inl (some 4))), (1, .inl a1), (2, .inl a2)] [] μ 0 0
  have L_2 : ∀ (l1 : Int32) (l2 : Int32) (k : Int32 → Mem → Prop), (∀ (v3 : Int32) (μ : Mem), k v3 μ → Rn K G 4 27 [] [] μ 0 0) → ∀ (n : Nat) (l3 : Int32) (μ : Mem), wP_vacate_2 l1 l2 k n l3 μ → Rn K G 4 2 [(0, .inr (.inl (some 4))), (1, .inl l1), (2, .inl l2), (3, .inl l3)] [] μ 0 0 := by
    intro l1 l2 k hk n
    induction n with
    | zero => intro l3 μ h; exact h.elim
    | succ n ih =>
      intro l3 μ h
      unfold wP_vacate_2 at h
      refine r_iload_n (pc := 2) C d_P_vacate_2 rfl 3 rfl ?_
      refine r_iload_n (pc := 3) C d_P_vacate_3 rfl 1 rfl ?_
      refine r_iload_n (pc := 4) C d_P_vacate_4 rfl 2 rfl ?_
      refine r_iadd (pc := 5) C d_P_vacate_5 ?_
      refine r_icmp_ge (tgt := 27) (pc := 6) C d_P_vacate_6 (by decide) ?_ ?_
      · intro hc; replace h := h.1 hc
        refine r_sub [] rfl ?_
        exact hk l3 μ h
      · intro hc; replace h := h.2 hc
        refine r_aload_n (pc := 9) C d_P_vacate_9 rfl 0 rfl ?_
        refine r_getR (pc := 10) (ci := 1) C rfl 0 (by decide) (k_51 C.w) rfl (lay_O rfl) d_P_vacate_10 ?_
        refine r_iload_n (pc := 13) C d_P_vacate_13 rfl 3 rfl ?_
        refine r_iconst (pc := 14) C d_P_vacate_14 (v := 4) (by decide) ?_
        refine r_idiv (pc := 15) C d_P_vacate_15 (by decide) ?_
        refine r_dup2 (pc := 16) C d_P_vacate_16 ?_
        obtain ⟨b1, h⟩ := h
        refine r_iald (pc := 17) C (lay_A rfl) b1 d_P_vacate_17 ?_
        refine r_iconst (pc := 18) C d_P_vacate_18 (v := 1) (by decide) ?_
        refine r_isub (pc := 19) C d_P_vacate_19 ?_
        refine r_iast (pc := 20) C (lay_A rfl) b1 d_P_vacate_20 ?_
        intro μ2 eμ2; replace h := h μ2 eμ2
        refine r_iinc (pc := 21) (v := 1) (lv' := [(0, .inr (.inl (some 4))), (1, .inl l1), (2, .inl l2)]) C d_P_vacate_21 3 rfl (by decide) (by decide) rfl ?_
        refine r_goto (tgt := 2) (pc := 24) C d_P_vacate_24 (by decide) ?_
        refine r_sub [1, 2, 3, 0] rfl ?_
        exact ih (l3 + 1) μ2 h
  unfold wP_vacate at h
  refine r_iload_n (pc := 0) C d_P_vacate_0 rfl 1 rfl ?_
  refine r_istore_n (pc := 1) (lv' := [(0, .inr (.inl (some 4))), (1, .inl a1), (2, .inl a2)]) C d_P_vacate_1 rfl (by decide) rfl ?_
  obtain ⟨n5, h⟩ := h
  refine r_sub [1, 2, 3, 0] rfl ?_
  refine L_2 a1 a2 _ ?_ n5 a1 μ h
  intro v4 μ3 h
  exact r_vret (pc := 27) C d_P_vacate_27 (by decide) (by decide) h
theorem c_C_remove {l : Launch} (hl : l.stackTraces = false) {G : Gl} {a1 : Nat} {post : Mem → Prop} {μ : Mem} (h : wC_remove a1 post μ) : Ct l G i_C_remove [.inr (.inl (some 0)), .inr (.inl (some a1))] μ (poV post) noX := by
  refine ct_of hl (by decide) (Nat.le_of_ble_eq_true rfl) ?_
  intro K hKl C hE
  clear hl hKl
  replace C : Cx K G prog_1_method_24_code "LineCollector" 2 { frames := 1, cells := 0, slots := 0, locals := 23 } (none) (poV post) noX := C
  show Rn K G 2 0 [(0, .inr (.inl (some 0))), (1, .inr (.inl (some a1)))] [] μ 0 0
  unfold wC_remove at h
  refine r_aload_n (pc := 0) C d_C_remove_0 rfl 0 rfl ?_
  refine r_getR (pc := 1) (ci := 0) C rfl 2 (by decide) (k_108 C.w) rfl (lay_O rfl) d_C_remove_1 ?_
  refine r_aload_n (pc := 4) C d_C_remove_4 rfl 1 rfl ?_
  obtain ⟨o1, h⟩ := h
  refine r_getI (pc := 5) (ci := 5) C rfl 4 (by decide) (k_470 C.w) rfl (ok_O o1) d_C_remove_5 ?_
  refine r_null (pc := 8) C d_C_remove_8 ?_
  obtain ⟨b2, h⟩ := h
  refine r_aast (pc := 9) C (lay_A rfl) b2 d_C_remove_9 (fun y hy => by cases hy) ?_
  intro μ3 eμ3; replace h := h μ3 eμ3
  refine r_aload_n (pc := 10) C d_C_remove_10 rfl 0 rfl ?_
  refine r_getR (pc := 11) (ci := 0) C rfl 3 (by decide) (k_109 C.w) rfl (lay_O rfl) d_C_remove_11 ?_
  refine r_aload_n (pc := 14) C d_C_remove_14 rfl 1 rfl ?_
  refine r_getI (pc := 15) (ci := 5) C rfl 4 (by decide) (k_470 C.w) rfl (ok_O (ok_t eμ3 o1)) d_C_remove_15 ?_
  refine r_aload_n (pc := 18) C d_C_remove_18 rfl 1 rfl ?_
  refine r_getI (pc := 19) (ci := 5) C rfl 0 (by decide) (k_461 C.w) rfl (ok_O (ok_t eμ3 o1)) d_C_remove_19 ?_
  refine r_cVv (pc := 22) (a' := 0) (b' := 0) (As := [.inl (mI μ3 a1 4), .inl (mI μ3 a1 0)]) (ci := 1) C (c_P_vacate C.s h) o_P_vacate rfl (lay_O rfl) (k_161 C.w) rfl ⟨by decide, by decide, by decide, by decide⟩ rfl rfl (Nat.le_of_ble_eq_true rfl) d_C_remove_22 rfl ?_
  intro μ4 h
  exact r_vret (pc := 25) C d_C_remove_25 (by decide) (by decide) h
theorem c_W_add {l : Launch} (hl : l.stackTraces = false) {G : Gl} {x : Nat} {a1 : Option Nat} {post : Mem → Prop} {μ : Mem} (h : wW_add x a1 post μ) : Ct l G i_W_add [.inr (.inl (some x)), .inr (.inl a1)] μ (poV post) noX := by
  refine ct_of hl (by decide) (Nat.le_of_ble_eq_true rfl) ?_
  intro K hKl C hE
  clear hl hKl
  replace C : Cx K G prog_5_method_2_code "LineCollector$Row" 2 { frames := 0, cells := 0, slots := 0, locals := 0 } (none) (poV post) noX := C
  show Rn K G 2 0 [(0, .inr (.inl (some x))), (1, .inr (.inl a1))] [] μ 0 0
  unfold wW_add at h
  refine r_aload_n (pc := 0) C d_W_add_0 rfl 0 rfl ?_
  obtain ⟨o1, h⟩ := h
  refine r_getI (pc := 1) (ci := 4) C rfl 2 (by decide) (k_97 C.w) rfl (ok_O o1) d_W_add_1 ?_
  refine r_sipush (pc := 4) C d_W_add_4 (v := 262) (by decide) ?_
  refine r_icmp_ge (tgt := 39) (pc := 7) C d_W_add_7 (by decide) ?_ ?_
  · intro hc; replace h := h.1 hc
    exact r_vret (pc := 39) C d_W_add_39 (by decide) (by decide) h
  · intro hc; replace h := h.2 hc
    refine r_aload_n (pc := 10) C d_W_add_10 rfl 0 rfl ?_
    refine r_getR (pc := 11) (ci := 4) C rfl 0 (by decide) (k_95 C.w) rfl (ok_O o1) d_W_add_11 ?_
    refine r_aload_n (pc := 14) C d_W_add_14 rfl 0 rfl ?_
    refine r_getI (pc := 15) (ci := 4) C rfl 1 (by decide) (k_96 C.w) rfl (ok_O o1) d_W_add_15 ?_
    refine r_aload_n (pc := 18) C d_W_add_18 rfl 0 rfl ?_
    refine r_getI (pc := 19) (ci := 4) C rfl 2 (by decide) (k_97 C.w) rfl (ok_O o1) d_W_add_19 ?_
    refine r_iadd (pc := 22) C d_W_add_22 ?_
    refine r_sipush (pc := 23) C d_W_add_23 (v := 262) (by decide) ?_
    refine r_irem (pc := 26) C d_W_add_26 (by decide) ?_
    refine r_aload_n (pc := 27) C d_W_add_27 rfl 1 rfl ?_
    obtain ⟨o2, h⟩ := h
    obtain ⟨b3, h⟩ := h
    obtain ⟨o5, h⟩ := h
    refine r_aast (pc := 28) C (ok_A o2) b3 d_W_add_28 o5 ?_
    intro μ4 eμ4; replace h := h μ4 eμ4
    refine r_aload_n (pc := 29) C d_W_add_29 rfl 0 rfl ?_
    refine r_dupR (pc := 30) C d_W_add_30 ?_
    refine r_getI (pc := 31) (ci := 4) C rfl 2 (by decide) (k_97 C.w) rfl (ok_O (ok_t eμ4 o1)) d_W_add_31 ?_
    refine r_iconst (pc := 34) C d_W_add_34 (v := 1) (by decide) ?_
    refine r_iadd (pc := 35) C d_W_add_35 ?_
    refine r_putI (pc := 36) (ci := 4) C rfl 2 (by decide) (k_97 C.w) rfl rfl p_I (ok_O (ok_t eμ4 o1)) d_W_add_36 ?_
    intro μ6 eμ6; replace h := h μ6 eμ6
    exact r_vret (pc := 39) C d_W_add_39 (by decide) (by decide) h
theorem c_I_isOld {l : Launch} (hl : l.stackTraces = false) {G : Gl} {x : Nat} {post : Int32 → Mem → Prop} {μ : Mem} (h : wI_isOld x post μ) : Ct l G i_I_isOld [.inr (.inl (some x))] μ (poI post) noX := by
  refine ct_of hl (by decide) (Nat.le_of_ble_eq_true rfl) ?_
  intro K hKl C hE
  clear hl hKl
  replace C : Cx K G prog_2_method_3_code "LineCollector$Item" 1 { frames := 0, cells := 0, slots := 0, locals := 0 } (some .boolean) (poI post) noX := C
  show Rn K G 1 0 [(0, .inr (.inl (some x)))] [] μ 0 0
  unfold wI_isOld at h
  refine r_aload_n (pc := 0) C d_I_isOld_0 rfl 0 rfl ?_
  obtain ⟨o1, h⟩ := h
  refine r_getI (pc := 1) (ci := 5) C rfl 5 (by decide) (k_471 C.w) rfl (ok_O o1) d_I_isOld_1 ?_
  refine r_if_le (tgt := 11) (pc := 4) C d_I_isOld_4 (by decide) ?_ ?_
  · intro hc; replace h := h.1 hc
    refine r_iconst (pc := 11) C d_I_isOld_11 (v := 0) (by decide) ?_
    exact r_zret (pc := 12) C (Or.inl rfl) d_I_isOld_12 (by decide) (by decide) h
  · intro hc; replace h := h.2 hc
    refine r_iconst (pc := 7) C d_I_isOld_7 (v := 1) (by decide) ?_
    refine r_goto (tgt := 12) (pc := 8) C d_I_isOld_8 (by decide) ?_
    exact r_zret (pc := 12) C (Or.inr rfl) d_I_isOld_12 (by decide) (by decide) h
theorem c_I_isWhite {l : Launch} (hl : l.stackTraces = false) {G : Gl} {x : Nat} {post : Int32 → Mem → Prop} {μ : Mem} (h : wI_isWhite x post μ) : Ct l G i_I_isWhite [.inr (.inl (some x))] μ (poI post) noX := by
  refine ct_of hl (by decide) (Nat.le_of_ble_eq_true rfl) ?_
  intro K hKl C hE
  clear hl hKl
  replace C : Cx K G prog_2_method_4_code "LineCollector$Item" 1 { frames := 1, cells := 0, slots := 0, locals := 20 } (some .boolean) (poI post) noX := C
  show Rn K G 1 0 [(0, .inr (.inl (some x)))] [] μ 0 0
  unfold wI_isWhite at h
  refine r_aload_n (pc := 0) C d_I_isWhite_0 rfl 0 rfl ?_
  obtain ⟨o1, h⟩ := h
  refine r_cVi (pc := 1) (a' := 0) (b' := 0) (As := []) (ci := 5) C (c_I_isOld C.s h) o_I_isOld rfl (ok_O o1) (k_177 C.w) rfl ⟨by decide, by decide, by decide, by decide⟩ rfl rfl (Nat.le_of_ble_eq_true rfl) d_I_isWhite_1 rfl ?_
  intro r3 μ2 h
  refine r_if_eq (tgt := 18) (pc := 4) C d_I_isWhite_4 (by decide) ?_ ?_
  · intro hc; replace h := h.1 hc
    refine r_iconst (pc := 18) C d_I_isWhite_18 (v := 0) (by decide) ?_
    exact r_zret (pc := 19) C (Or.inl rfl) d_I_isWhite_19 (by decide) (by decide) h
  · intro hc; replace h := h.2 hc
    refine r_aload_n (pc := 7) C d_I_isWhite_7 rfl 0 rfl ?_
    obtain ⟨o4, h⟩ := h
    refine r_getI (pc := 8) (ci := 5) C rfl 6 (by decide) (k_473 C.w) rfl (ok_O o4) d_I_isWhite_8 ?_
    refine r_if_ne (tgt := 18) (pc := 11) C d_I_isWhite_11 (by decide) ?_ ?_
    · intro hc; replace h := h.2 hc
      refine r_iconst (pc := 18) C d_I_isWhite_18 (v := 0) (by decide) ?_
      exact r_zret (pc := 19) C (Or.inl rfl) d_I_isWhite_19 (by decide) (by decide) h
    · intro hc; replace h := h.1 hc
      refine r_iconst (pc := 14) C d_I_isWhite_14 (v := 1) (by decide) ?_
      refine r_goto (tgt := 19) (pc := 15) C d_I_isWhite_15 (by decide) ?_
      exact r_zret (pc := 19) C (Or.inr rfl) d_I_isWhite_19 (by decide) (by decide) h
theorem c_I_turnGreyIfWhite {l : Launch} (hl : l.stackTraces = false) {G : Gl} {x : Nat} {post : Mem → Prop} {μ : Mem} (h : wI_turnGreyIfWhite x post μ) : Ct l G i_I_turnGreyIfWhite [.inr (.inl (some x))] μ (poV post) noX := by
  refine ct_of hl (by decide) (Nat.le_of_ble_eq_true rfl) ?_
  intro K hKl C hE
  clear hl hKl
  replace C : Cx K G prog_2_method_6_code "LineCollector$Item" 1 { frames := 2, cells := 0, slots := 0, locals := 40 } (none) (poV post) noX := C
  show Rn K G 1 0 [(0, .inr (.inl (some x)))] [] μ 0 0
  unfold wI_turnGreyIfWhite at h
  refine r_aload_n (pc := 0) C d_I_turnGreyIfWhite_0 rfl 0 rfl ?_
  obtain ⟨o1, h⟩ := h
  refine r_cVi (pc := 1) (a' := 0) (b' := 0) (As := []) (ci := 5) C (c_I_isWhite C.s h) o_I_isWhite rfl (ok_O o1) (k_173 C.w) rfl ⟨by decide, by decide, by decide, by decide⟩ rfl rfl (Nat.le_of_ble_eq_true rfl) d_I_turnGreyIfWhite_1 rfl ?_
  intro r3 μ2 h
  refine r_if_eq (tgt := 12) (pc := 4) C d_I_turnGreyIfWhite_4 (by decide) ?_ ?_
  · intro hc; replace h := h.1 hc
    exact r_vret (pc := 12) C d_I_turnGreyIfWhite_12 (by decide) (by decide) h
  · intro hc; replace h := h.2 hc
    refine r_aload_n (pc := 7) C d_I_turnGreyIfWhite_7 rfl 0 rfl ?_
    refine r_iconst (pc := 8) C d_I_turnGreyIfWhite_8 (v := 1) (by decide) ?_
    obtain ⟨o4, h⟩ := h
    refine r_putI (pc := 9) (ci := 5) C rfl 6 (by decide) (k_473 C.w) rfl rfl p_I (ok_O o4) d_I_turnGreyIfWhite_9 ?_
    intro μ5 eμ5; replace h := h μ5 eμ5
    exact r_vret (pc := 12) C d_I_turnGreyIfWhite_12 (by decide) (by decide) h
theorem c_C_letGo {l : Launch} (hl : l.stackTraces = false) {G : Gl} {a1 : Nat} {post : Mem → Prop} {μ : Mem} (h : wC_letGo a1 post μ) : Ct l G i_C_letGo [.inr (.inl (some 0)), .inr (.inl (some a1))] μ (poV post) noX := by
  refine ct_of hl (by decide) (Nat.le_of_ble_eq_true rfl) ?_
  intro K hKl C hE
  clear hl hKl
  replace C : Cx K G prog_1_method_27_code "LineCollector" 6 { frames := 3, cells := 0, slots := 0, locals := 60 } (none) (poV post) noX := C
  show Rn K G 6 0 [(0, .inr (.inl (some 0))), (1, .inr (.inl (some a1)))] [] μ 0 0
  have L_16 : ∀ (l1 : Nat) (l2 : Nat) (l3 : Int32) (k : Int32 → Mem → Prop), (∀ (v4 : Int32) (μ : Mem), k v4 μ → Rn K G 6 64 [] [] μ 0 0) → ∀ (n : Nat) (l4 : Int32) (μ : Mem), wC_letGo_16 l1 l2 l3 k n l4 μ → Rn K G 6 16 [(0, .inr (.inl (some 0))), (1, .inr (.inl (some l1))), (2, .inr (.inl (some l2))), (3, .inl l3), (4, .inl l4)] [] μ 0 0 := by
    intro l1 l2 l3 k hk n
    induction n with
    | zero => intro l4 μ h; exact h.elim
    | succ n ih =>
      intro l4 μ h
      unfold wC_letGo_16 at h
      refine r_iload (pc := 16) C d_C_letGo_16 4 rfl ?_
      refine r_iload_n (pc := 18) C d_C_letGo_18 rfl 3 rfl ?_
      refine r_icmp_ge (tgt := 64) (pc := 19) C d_C_letGo_19 (by decide) ?_ ?_
      · intro hc; replace h := h.1 hc
        refine r_sub [] rfl ?_
        exact hk l4 μ h
      · intro hc; replace h := h.2 hc
        refine r_aload_n (pc := 22) C d_C_letGo_22 rfl 2 rfl ?_
        refine r_iload (pc := 23) C d_C_letGo_23 4 rfl ?_
        obtain ⟨o4, h⟩ := h
        obtain ⟨b5, h⟩ := h
        refine r_aald (pc := 25) C (ok_A o4) b5 d_C_letGo_25 ?_
        intro e6 he6; replace h := h e6 he6
        refine r_astore (pc := 26) (lv' := [(0, .inr (.inl (some 0))), (1, .inr (.inl (some l1))), (2, .inr (.inl (some l2))), (3, .inl l3), (4, .inl l4)]) C d_C_letGo_26 (by decide) rfl ?_
        refine r_aload (pc := 28) C d_C_letGo_28 0 rfl ?_
        refine r_ifnonnull (tgt := 36) (pc := 30) C d_C_letGo_30 (by decide) ?_ ?_
        · intro y7 h0; subst h0; replace h := h.2 y7 rfl
          refine r_aload_n (pc := 36) C d_C_letGo_36 rfl 1 rfl ?_
          refine r_getR (pc := 37) (ci := 0) C rfl 5 (by decide) (k_111 C.w) rfl (lay_O rfl) d_C_letGo_37 ?_
          refine r_aload (pc := 40) C d_C_letGo_40 0 rfl ?_
          refine r_cVv (pc := 42) (a' := 0) (b' := 0) (As := [.inr (.inl (some y7))]) (ci := 4) C (c_W_add C.s h) o_W_add rfl (lay_O rfl) (k_165 C.w) rfl ⟨by decide, by decide, by decide, by decide⟩ rfl rfl (Nat.le_of_ble_eq_true rfl) d_C_letGo_42 rfl ?_
          intro μ8 h
          refine r_aload_n (pc := 45) C d_C_letGo_45 rfl 2 rfl ?_
          obtain ⟨o9, h⟩ := h
          refine r_getI (pc := 46) (ci := 5) C rfl 6 (by decide) (k_474 C.w) rfl (ok_O o9) d_C_letGo_46 ?_
          refine r_iconst (pc := 49) C d_C_letGo_49 (v := 1) (by decide) ?_
          refine r_icmp_ne (tgt := 58) (pc := 50) C d_C_letGo_50 (by decide) ?_ ?_
          · intro hc; replace h := h.2 hc
            refine r_iinc (pc := 58) (v := 1) (lv' := [(5, .inr (.inl (some y7))), (0, .inr (.inl (some 0))), (1, .inr (.inl (some l1))), (2, .inr (.inl (some l2))), (3, .inl l3)]) C d_C_letGo_58 5 rfl (by decide) (by decide) rfl ?_
            refine r_goto (tgt := 16) (pc := 61) C d_C_letGo_61 (by decide) ?_
            refine r_sub [2, 3, 4, 5, 0] rfl ?_
            exact ih (l4 + 1) μ8 h
          · intro hc; replace h := h.1 hc
            refine r_aload (pc := 53) C d_C_letGo_53 0 rfl ?_
            obtain ⟨o10, h⟩ := h
            refine r_cVv (pc := 55) (a' := 0) (b' := 0) (As := []) (ci := 5) C (c_I_turnGreyIfWhite C.s h) o_I_turnGreyIfWhite rfl (ok_O o10) (k_169 C.w) rfl ⟨by decide, by decide, by decide, by decide⟩ rfl rfl (Nat.le_of_ble_eq_true rfl) d_C_letGo_55 rfl ?_
            intro μ11 h
            refine r_iinc (pc := 58) (v := 1) (lv' := [(5, .inr (.inl (some y7))), (0, .inr (.inl (some 0))), (1, .inr (.inl (some l1))), (2, .inr (.inl (some l2))), (3, .inl l3)]) C d_C_letGo_58 5 rfl (by decide) (by decide) rfl ?_
            refine r_goto (tgt := 16) (pc := 61) C d_C_letGo_61 (by decide) ?_
            refine r_sub [2, 3, 4, 5, 0] rfl ?_
            exact ih (l4 + 1) μ11 h
        · intro h0; subst h0; replace h := h.1 rfl
          refine r_goto (tgt := 58) (pc := 33) C d_C_letGo_33 (by decide) ?_
          refine r_iinc (pc := 58) (v := 1) (lv' := [(5, .inr (.inl none)), (0, .inr (.inl (some 0))), (1, .inr (.inl (some l1))), (2, .inr (.inl (some l2))), (3, .inl l3)]) C d_C_letGo_58 5 rfl (by decide) (by decide) rfl ?_
          refine r_goto (tgt := 16) (pc := 61) C d_C_letGo_61 (by decide) ?_
          refine r_sub [2, 3, 4, 5, 0] rfl ?_
          exact ih (l4 + 1) μ h
  unfold wC_letGo at h
  refine r_aload_n (pc := 0) C d_C_letGo_0 rfl 0 rfl ?_
  refine r_aload_n (pc := 1) C d_C_letGo_1 rfl 1 rfl ?_
  refine r_cVv (pc := 2) (a' := 0) (b' := 0) (As := [.inr (.inl (some a1))]) (ci := 0) C (c_C_remove C.s h) o_C_remove rfl (lay_O rfl) (k_157 C.w) rfl ⟨by decide, by decide, by decide, by decide⟩ rfl rfl (Nat.le_of_ble_eq_true rfl) d_C_letGo_2 rfl ?_
  intro μ1 h
  refine r_aload_n (pc := 5) C d_C_letGo_5 rfl 1 rfl ?_
  obtain ⟨o2, h⟩ := h
  refine r_getR (pc := 6) (ci := 5) C rfl 2 (by decide) (k_466 C.w) rfl (ok_O o2) d_C_letGo_6 ?_
  refine r_astore_n (pc := 9) (lv' := [(0, .inr (.inl (some 0))), (1, .inr (.inl (some a1)))]) C d_C_letGo_9 rfl (by decide) rfl ?_
  refine r_aload_n (pc := 10) C d_C_letGo_10 rfl 0 rfl ?_
  obtain ⟨o3, h⟩ := h
  refine r_alenQ (pc := 11) (v := nI (mL μ1 (a1 + 1))) C (ok_A o3) rfl d_C_letGo_11 ?_
  refine r_istore_n (pc := 12) (lv' := [(2, .inr (.inl (some (a1 + 1)))), (0, .inr (.inl (some 0))), (1, .inr (.inl (some a1)))]) C d_C_letGo_12 rfl (by decide) rfl ?_
  refine r_iconst (pc := 13) C d_C_letGo_13 (v := 0) (by decide) ?_
  refine r_istore (pc := 14) (lv' := [(3, .inl (nI (mL μ1 (a1 + 1)))), (2, .inr (.inl (some (a1 + 1)))), (0, .inr (.inl (some 0))), (1, .inr (.inl (some a1)))]) C d_C_letGo_14 (by decide) rfl ?_
  obtain ⟨n14, h⟩ := h
  refine r_sub [3, 4, 2, 1, 0] rfl ?_
  refine L_16 a1 (a1 + 1) (nI (mL μ1 (a1 + 1))) _ ?_ n14 0 μ1 h
  intro v13 μ12 h
  exact r_vret (pc := 64) C d_C_letGo_64 (by decide) (by decide) h
theorem c_C_drainUpTo {l : Launch} (hl : l.stackTraces = false) {G : Gl} {a1 : Int32} {post : Mem → Prop} {μ : Mem} (h : wC_drainUpTo a1 post μ) : Ct l G i_C_drainUpTo [.inr (.inl (some 0)), .inl a1] μ (poV post) noX := by
  refine ct_of hl (by decide) (Nat.le_of_ble_eq_true rfl) ?_
  intro K hKl C hE
  clear hl hKl
  replace C : Cx K G prog_1_method_26_code "LineCollector" 4 { frames := 4, cells := 0, slots := 0, locals := 85 } (none) (poV post) noX := C
  show Rn K G 4 0 [(0, .inr (.inl (some 0))), (1, .inl a1)] [] μ 0 0
  have L_2 : ∀ (l1 : Int32) (k : Int32 → Mem → Prop), (∀ (v2 : Int32) (μ : Mem), k v2 μ → Rn K G 4 68 [] [] μ 0 0) → ∀ (n : Nat) (l2 : Int32) (μ : Mem), wC_drainUpTo_2 l1 k n l2 μ → Rn K G 4 2 [(0, .inr (.inl (some 0))), (1, .inl l1), (2, .inl l2)] [] μ 0 0 := by
    intro l1 k hk n
    induction n with
    | zero => intro l2 μ h; exact h.elim
    | succ n ih =>
      intro l2 μ h
      unfold wC_drainUpTo_2 at h
      refine r_iload_n (pc := 2) C d_C_drainUpTo_2 rfl 2 rfl ?_
      refine r_iload_n (pc := 3) C d_C_drainUpTo_3 rfl 1 rfl ?_
      refine r_icmp_ge (tgt := 68) (pc := 4) C d_C_drainUpTo_4 (by decide) ?_ ?_
      · intro hc; replace h := h.1 hc
        refine r_sub [] rfl ?_
        exact hk l2 μ h
      · intro hc; replace h := h.2 hc
        refine r_aload_n (pc := 7) C d_C_drainUpTo_7 rfl 0 rfl ?_
        refine r_getR (pc := 8) (ci := 0) C rfl 5 (by decide) (k_111 C.w) rfl (lay_O rfl) d_C_drainUpTo_8 ?_
        refine r_getI (pc := 11) (ci := 4) C rfl 2 (by decide) (k_98 C.w) rfl (lay_O rfl) d_C_drainUpTo_11 ?_
        refine r_if_le (tgt := 68) (pc := 14) C d_C_drainUpTo_14 (by decide) ?_ ?_
        · intro hc; replace h := h.1 hc
          refine r_sub [] rfl ?_
          exact hk l2 μ h
        · intro hc; replace h := h.2 hc
          refine r_aload_n (pc := 17) C d_C_drainUpTo_17 rfl 0 rfl ?_
          refine r_getR (pc := 18) (ci := 0) C rfl 5 (by decide) (k_111 C.w) rfl (lay_O rfl) d_C_drainUpTo_18 ?_
          refine r_cVq (pc := 21) (a' := 0) (b' := 0) (As := []) (ci := 4) C (c_W_takeFirst C.s h) o_W_takeFirst rfl (lay_O rfl) (k_149 C.w) rfl ⟨by decide, by decide, by decide, by decide⟩ rfl rfl (Nat.le_of_ble_eq_true rfl) d_C_drainUpTo_21 rfl ?_
          intro r2 μ1 h
          refine r_astore_n (pc := 24) (lv' := [(0, .inr (.inl (some 0))), (1, .inl l1), (2, .inl l2)]) C d_C_drainUpTo_24 rfl (by decide) rfl ?_
          refine r_aload_n (pc := 25) C d_C_drainUpTo_25 rfl 0 rfl ?_
          refine r_ifnull (tgt := 62) (pc := 26) C d_C_drainUpTo_26 (by decide) ?_ ?_
          · intro h0; subst h0; replace h := h.1 rfl
            refine r_iinc (pc := 62) (v := 1) (lv' := [(3, .inr (.inl none)), (0, .inr (.inl (some 0))), (1, .inl l1)]) C d_C_drainUpTo_62 3 rfl (by decide) (by decide) rfl ?_
            refine r_goto (tgt := 2) (pc := 65) C d_C_drainUpTo_65 (by decide) ?_
            refine r_sub [2, 3, 0] rfl ?_
            exact ih (l2 + 1) μ1 h
          · intro y3 h0; subst h0; replace h := h.2 y3 rfl
            refine r_aload_n (pc := 29) C d_C_drainUpTo_29 rfl 0 rfl ?_
            obtain ⟨o4, h⟩ := h
            refine r_getI (pc := 30) (ci := 5) C rfl 5 (by decide) (k_472 C.w) rfl (ok_O o4) d_C_drainUpTo_30 ?_
            refine r_iconst (pc := 33) C d_C_drainUpTo_33 (v := 3) (by decide) ?_
            refine r_icmp_ne (tgt := 40) (pc := 34) C d_C_drainUpTo_34 (by decide) ?_ ?_
            · intro hc; replace h := h.2 hc
              refine r_aload_n (pc := 40) C d_C_drainUpTo_40 rfl 0 rfl ?_
              refine r_dupR (pc := 41) C d_C_drainUpTo_41 ?_
              refine r_getI (pc := 42) (ci := 5) C rfl 5 (by decide) (k_472 C.w) rfl (ok_O o4) d_C_drainUpTo_42 ?_
              refine r_iconst (pc := 45) C d_C_drainUpTo_45 (v := 1) (by decide) ?_
              refine r_isub (pc := 46) C d_C_drainUpTo_46 ?_
              refine r_putI (pc := 47) (ci := 5) C rfl 5 (by decide) (k_472 C.w) rfl rfl p_I (ok_O o4) d_C_drainUpTo_47 ?_
              intro μ5 eμ5; replace h := h μ5 eμ5
              refine r_aload_n (pc := 50) C d_C_drainUpTo_50 rfl 0 rfl ?_
              refine r_getI (pc := 51) (ci := 5) C rfl 5 (by decide) (k_472 C.w) rfl (ok_O (ok_s eμ5 o4)) d_C_drainUpTo_51 ?_
              refine r_if_ne (tgt := 62) (pc := 54) C d_C_drainUpTo_54 (by decide) ?_ ?_
              · intro hc; replace h := h.2 hc
                refine r_iinc (pc := 62) (v := 1) (lv' := [(3, .inr (.inl (some y3))), (0, .inr (.inl (some 0))), (1, .inl l1)]) C d_C_drainUpTo_62 3 rfl (by decide) (by decide) rfl ?_
                refine r_goto (tgt := 2) (pc := 65) C d_C_drainUpTo_65 (by decide) ?_
                refine r_sub [2, 3, 0] rfl ?_
                exact ih (l2 + 1) μ5 h
              · intro hc; replace h := h.1 hc
                refine r_aload_n (pc := 57) C d_C_drainUpTo_57 rfl 1 rfl ?_
                refine r_aload_n (pc := 58) C d_C_drainUpTo_58 rfl 0 rfl ?_
                refine r_cVv (pc := 59) (a' := 0) (b' := 0) (As := [.inr (.inl (some y3))]) (ci := 0) C (c_C_letGo C.s h) o_C_letGo rfl (lay_O rfl) (k_153 C.w) rfl ⟨by decide, by decide, by decide, by decide⟩ rfl rfl (Nat.le_of_ble_eq_true rfl) d_C_drainUpTo_59 rfl ?_
                intro μ6 h
                refine r_iinc (pc := 62) (v := 1) (lv' := [(3, .inr (.inl (some y3))), (0, .inr (.inl (some 0))), (1, .inl l1)]) C d_C_drainUpTo_62 3 rfl (by decide) (by decide) rfl ?_
                refine r_goto (tgt := 2) (pc := 65) C d_C_drainUpTo_65 (by decide) ?_
                refine r_sub [2, 3, 0] rfl ?_
                exact ih (l2 + 1) μ6 h
            · intro hc; replace h := h.1 hc
              refine r_goto (tgt := 62) (pc := 37) C d_C_drainUpTo_37 (by decide) ?_
              refine r_iinc (pc := 62) (v := 1) (lv' := [(3, .inr (.inl (some y3))), (0, .inr (.inl (some 0))), (1, .inl l1)]) C d_C_drainUpTo_62 3 rfl (by decide) (by decide) rfl ?_
              refine r_goto (tgt := 2) (pc := 65) C d_C_drainUpTo_65 (by decide) ?_
              refine r_sub [2, 3, 0] rfl ?_
              exact ih (l2 + 1) μ1 h
  unfold wC_drainUpTo at h
  refine r_iconst (pc := 0) C d_C_drainUpTo_0 (v := 0) (by decide) ?_
  refine r_istore_n (pc := 1) (lv' := [(0, .inr (.inl (some 0))), (1, .inl a1)]) C d_C_drainUpTo_1 rfl (by decide) rfl ?_
  obtain ⟨n9, h⟩ := h
  refine r_sub [1, 2, 0] rfl ?_
  refine L_2 a1 _ ?_ n9 0 μ h
  intro v8 μ7 h
  exact r_vret (pc := 68) C d_C_drainUpTo_68 (by decide) (by decide) h
