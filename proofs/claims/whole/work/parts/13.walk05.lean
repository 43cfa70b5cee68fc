/-! The machine meets the predicates (written by a program) -/
theorem c_M_thrown {l : Launch} (hl : l.stackTraces = false) {G : Gl} (hg : gf G = true) {post : Int32 → Mem → Prop} {μ : Mem} (h : wM_thrown post μ) : Ct l G i_M_thrown [.inr (.inl (some 17))] μ (poI post) noX := by
  refine ct_of hl (by decide) (Nat.le_of_ble_eq_true rfl) ?_
  intro K hKl C Q hE
  clear hl hKl
  replace C : Cx K G prog_8_method_2_code "LineCollectorModel" 1 { frames := 0, cells := 0, slots := 0, locals := 0 } := C
  replace Q : Cq K G { frames := 0, cells := 0, slots := 0, locals := 0 } (some .int) (poI post) noX := Q
  show Rn K G 1 0 [(0, .inr (.inl (some 17)))] [] μ 0 0
  unfold wM_thrown at h
  refine r_aload_n (pc := 0) C d_M_thrown_0 rfl 0 rfl ?_
  refine r_getI (pc := 1) (ci := 6) C rfl 0 (by decide) (k_650 C.w) rfl (lay_O hg rfl) d_M_thrown_1 ?_
  exact r_iret (pc := 4) C Q d_M_thrown_4 (by decide) (by decide) h
theorem c_M_isUsed {l : Launch} (hl : l.stackTraces = false) {G : Gl} (hg : gf G = true) {a1 : Int32} {post : Int32 → Mem → Prop} {μ : Mem} (h : wM_isUsed a1 post μ) : Ct l G i_M_isUsed [.inr (.inl (some 17)), .inl a1] μ (poI post) noX := by
  refine ct_of hl (by decide) (Nat.le_of_ble_eq_true rfl) ?_
  intro K hKl C Q hE
  clear hl hKl
  replace C : Cx K G prog_8_method_3_code "LineCollectorModel" 4 { frames := 0, cells := 0, slots := 0, locals := 0 } := C
  replace Q : Cq K G { frames := 0, cells := 0, slots := 0, locals := 0 } (some .boolean) (poI post) noX := Q
  show Rn K G 4 0 [(0, .inr (.inl (some 17))), (1, .inl a1)] [] μ 0 0
  have L_11 : ∀ (l1 : Int32) (k : Int32 → Int32 → Mem → Prop), (∀ (v2 : Int32) (v3 : Int32) (μ : Mem), k v2 v3 μ → Rn K G 4 45 [(2, .inl v2)] [] μ 0 0) → ∀ (n : Nat) (l2 : Int32) (l3 : Int32) (μ : Mem), wM_isUsed_11 l1 k n l2 l3 μ → Rn K G 4 11 [(0, .inr (.inl (some 17))), (1, .inl l1), (2, .inl l2), (3, .inl l3)] [] μ 0 0 := by
    intro l1 k hk n
    induction n with
    | zero => intro l2 l3 μ h; exact h.elim
    | succ n ih =>
      intro l2 l3 μ h
      unfold wM_isUsed_11 at h
      refine r_iload_n (pc := 11) C d_M_isUsed_11 rfl 3 rfl ?_
      refine r_iconst (pc := 12) C d_M_isUsed_12 (v := 4) (by decide) ?_
      refine r_iload_n (pc := 13) C d_M_isUsed_13 rfl 1 rfl ?_
      refine r_imul (pc := 14) C d_M_isUsed_14 ?_
      refine r_iconst (pc := 15) C d_M_isUsed_15 (v := 4) (by decide) ?_
      refine r_iadd (pc := 16) C d_M_isUsed_16 ?_
      refine r_icmp_ge (tgt := 45) (pc := 17) C d_M_isUsed_17 (by decide) ?_ ?_
      · intro hc; replace h := h.1 hc
        refine r_sub [2] rfl ?_
        exact hk l2 l3 μ h
      · intro hc; replace h := h.2 hc
        refine r_iload_n (pc := 20) C d_M_isUsed_20 rfl 2 rfl ?_
        refine r_if_ne (tgt := 33) (pc := 21) C d_M_isUsed_21 (by decide) ?_ ?_
        · intro hc; replace h := h.2 hc
          refine r_iconst (pc := 33) C d_M_isUsed_33 (v := 1) (by decide) ?_
          refine r_goto (tgt := 38) (pc := 34) C d_M_isUsed_34 (by decide) ?_
          refine r_istore_n (pc := 38) (lv' := [(0, .inr (.inl (some 17))), (1, .inl l1), (3, .inl l3)]) C d_M_isUsed_38 rfl (by decide) rfl ?_
          refine r_iinc (pc := 39) (v := 1) (lv' := [(2, .inl 1), (0, .inr (.inl (some 17))), (1, .inl l1)]) C d_M_isUsed_39 3 rfl (by decide) (by decide) rfl ?_
          refine r_goto (tgt := 11) (pc := 42) C d_M_isUsed_42 (by decide) ?_
          refine r_sub [2, 3, 1, 0] rfl ?_
          exact ih 1 (l3 + 1) μ h
        · intro hc; replace h := h.1 hc
          refine r_aload_n (pc := 24) C d_M_isUsed_24 rfl 0 rfl ?_
          refine r_getR (pc := 25) (ci := 6) C rfl 1 (by decide) (k_651 C.w) rfl (lay_O hg rfl) d_M_isUsed_25 ?_
          refine r_iload_n (pc := 28) C d_M_isUsed_28 rfl 3 rfl ?_
          obtain ⟨b2, h⟩ := h
          refine r_iald (pc := 29) C (lay_A hg rfl) b2 d_M_isUsed_29 ?_
          refine r_if_lt (tgt := 37) (pc := 30) C d_M_isUsed_30 (by decide) ?_ ?_
          · intro hc; replace h := h.1 hc
            refine r_iconst (pc := 37) C d_M_isUsed_37 (v := 0) (by decide) ?_
            refine r_istore_n (pc := 38) (lv' := [(0, .inr (.inl (some 17))), (1, .inl l1), (3, .inl l3)]) C d_M_isUsed_38 rfl (by decide) rfl ?_
            refine r_iinc (pc := 39) (v := 1) (lv' := [(2, .inl 0), (0, .inr (.inl (some 17))), (1, .inl l1)]) C d_M_isUsed_39 3 rfl (by decide) (by decide) rfl ?_
            refine r_goto (tgt := 11) (pc := 42) C d_M_isUsed_42 (by decide) ?_
            refine r_sub [2, 3, 1, 0] rfl ?_
            exact ih 0 (l3 + 1) μ h
          · intro hc; replace h := h.2 hc
            refine r_iconst (pc := 33) C d_M_isUsed_33 (v := 1) (by decide) ?_
            refine r_goto (tgt := 38) (pc := 34) C d_M_isUsed_34 (by decide) ?_
            refine r_istore_n (pc := 38) (lv' := [(0, .inr (.inl (some 17))), (1, .inl l1), (3, .inl l3)]) C d_M_isUsed_38 rfl (by decide) rfl ?_
            refine r_iinc (pc := 39) (v := 1) (lv' := [(2, .inl 1), (0, .inr (.inl (some 17))), (1, .inl l1)]) C d_M_isUsed_39 3 rfl (by decide) (by decide) rfl ?_
            refine r_goto (tgt := 11) (pc := 42) C d_M_isUsed_42 (by decide) ?_
            refine r_sub [2, 3, 1, 0] rfl ?_
            exact ih 1 (l3 + 1) μ h
  unfold wM_isUsed at h
  refine r_aload_n (pc := 0) C d_M_isUsed_0 rfl 0 rfl ?_
  refine r_getR (pc := 1) (ci := 6) C rfl 18 (by decide) (k_668 C.w) rfl (lay_O hg rfl) d_M_isUsed_1 ?_
  refine r_iload_n (pc := 4) C d_M_isUsed_4 rfl 1 rfl ?_
  obtain ⟨b1, h⟩ := h
  refine r_zald (pc := 5) C (lay_A hg rfl) b1 d_M_isUsed_5 ?_
  refine r_istore_n (pc := 6) (lv' := [(0, .inr (.inl (some 17))), (1, .inl a1)]) C d_M_isUsed_6 rfl (by decide) rfl ?_
  refine r_iconst (pc := 7) C d_M_isUsed_7 (v := 4) (by decide) ?_
  refine r_iload_n (pc := 8) C d_M_isUsed_8 rfl 2 rfl ?_
  refine r_imul (pc := 9) C d_M_isUsed_9 ?_
  refine r_istore_n (pc := 10) (lv' := [(2, .inl (mI μ 29 (a1).toNatClampNeg)), (0, .inr (.inl (some 17))), (1, .inl a1)]) C d_M_isUsed_10 rfl (by decide) rfl ?_
  obtain ⟨n7, h⟩ := h
  refine r_sub [2, 3, 1, 0] rfl ?_
  refine L_11 a1 _ ?_ n7 (mI μ 29 (a1).toNatClampNeg) (4 * a1) μ h
  intro v4 v5 μ3 h
  refine r_iload_n (pc := 45) C d_M_isUsed_45 rfl 0 rfl ?_
  obtain ⟨z6, h⟩ := h
  exact r_zret (pc := 46) C Q z6 d_M_isUsed_46 (by decide) (by decide) h
theorem c_M_isTaken {l : Launch} (hl : l.stackTraces = false) {G : Gl} (hg : gf G = true) {a1 : Int32} {post : Int32 → Mem → Prop} {μ : Mem} (h : wM_isTaken a1 post μ) : Ct l G i_M_isTaken [.inr (.inl (some 17)), .inl a1] μ (poI post) noX := by
  refine ct_of hl (by decide) (Nat.le_of_ble_eq_true rfl) ?_
  intro K hKl C Q hE
  clear hl hKl
  replace C : Cx K G prog_8_method_4_code "LineCollectorModel" 2 { frames := 0, cells := 0, slots := 0, locals := 0 } := C
  replace Q : Cq K G { frames := 0, cells := 0, slots := 0, locals := 0 } (some .boolean) (poI post) noX := Q
  show Rn K G 2 0 [(0, .inr (.inl (some 17))), (1, .inl a1)] [] μ 0 0
  have J_23 : ∀ (l1 : Int32) (μ : Mem), wM_isTaken_23 l1 post μ → Rn K G 2 23 [(0, .inr (.inl (some 17))), (1, .inl l1)] [] μ 0 0 := by
    intro l1 μ h
    unfold wM_isTaken_23 at h
    refine r_aload_n (pc := 23) C d_M_isTaken_23 rfl 0 rfl ?_
    refine r_getI (pc := 24) (ci := 6) C rfl 16 (by decide) (k_666 C.w) rfl (lay_O hg rfl) d_M_isTaken_24 ?_
    refine r_if_lt (tgt := 45) (pc := 27) C d_M_isTaken_27 (by decide) ?_ ?_
    · intro hc; replace h := h.1 hc
      refine r_iconst (pc := 45) C d_M_isTaken_45 (v := 0) (by decide) ?_
      exact r_zret (pc := 46) C Q (Or.inl rfl) d_M_isTaken_46 (by decide) (by decide) h
    · intro hc; replace h := h.2 hc
      refine r_iload_n (pc := 30) C d_M_isTaken_30 rfl 1 rfl ?_
      refine r_bipush (pc := 31) C d_M_isTaken_31 (v := 8) (by decide) ?_
      refine r_idiv (pc := 33) C d_M_isTaken_33 (by decide) ?_
      refine r_aload_n (pc := 34) C d_M_isTaken_34 rfl 0 rfl ?_
      refine r_getI (pc := 35) (ci := 6) C rfl 16 (by decide) (k_666 C.w) rfl (lay_O hg rfl) d_M_isTaken_35 ?_
      refine r_icmp_ne (tgt := 45) (pc := 38) C d_M_isTaken_38 (by decide) ?_ ?_
      · intro hc; replace h := h.2 hc
        refine r_iconst (pc := 45) C d_M_isTaken_45 (v := 0) (by decide) ?_
        exact r_zret (pc := 46) C Q (Or.inl rfl) d_M_isTaken_46 (by decide) (by decide) h
      · intro hc; replace h := h.1 hc
        refine r_iconst (pc := 41) C d_M_isTaken_41 (v := 1) (by decide) ?_
        refine r_goto (tgt := 46) (pc := 42) C d_M_isTaken_42 (by decide) ?_
        exact r_zret (pc := 46) C Q (Or.inr rfl) d_M_isTaken_46 (by decide) (by decide) h
  unfold wM_isTaken at h
  refine r_aload_n (pc := 0) C d_M_isTaken_0 rfl 0 rfl ?_
  refine r_getI (pc := 1) (ci := 6) C rfl 13 (by decide) (k_663 C.w) rfl (lay_O hg rfl) d_M_isTaken_1 ?_
  refine r_if_lt (tgt := 23) (pc := 4) C d_M_isTaken_4 (by decide) ?_ ?_
  · intro hc; replace h := h.1 hc
    exact J_23 a1 μ h
  · intro hc; replace h := h.2 hc
    refine r_iload_n (pc := 7) C d_M_isTaken_7 rfl 1 rfl ?_
    refine r_aload_n (pc := 8) C d_M_isTaken_8 rfl 0 rfl ?_
    refine r_getI (pc := 9) (ci := 6) C rfl 13 (by decide) (k_663 C.w) rfl (lay_O hg rfl) d_M_isTaken_9 ?_
    refine r_icmp_lt (tgt := 23) (pc := 12) C d_M_isTaken_12 (by decide) ?_ ?_
    · intro hc; replace h := h.1 hc
      exact J_23 a1 μ h
    · intro hc; replace h := h.2 hc
      refine r_iload_n (pc := 15) C d_M_isTaken_15 rfl 1 rfl ?_
      refine r_aload_n (pc := 16) C d_M_isTaken_16 rfl 0 rfl ?_
      refine r_getI (pc := 17) (ci := 6) C rfl 14 (by decide) (k_664 C.w) rfl (lay_O hg rfl) d_M_isTaken_17 ?_
      refine r_icmp_lt (tgt := 41) (pc := 20) C d_M_isTaken_20 (by decide) ?_ ?_
      · intro hc; replace h := h.1 hc
        refine r_iconst (pc := 41) C d_M_isTaken_41 (v := 1) (by decide) ?_
        refine r_goto (tgt := 46) (pc := 42) C d_M_isTaken_42 (by decide) ?_
        exact r_zret (pc := 46) C Q (Or.inr rfl) d_M_isTaken_46 (by decide) (by decide) h
      · intro hc; replace h := h.2 hc
        exact J_23 a1 μ h
theorem c_M_isFree {l : Launch} (hl : l.stackTraces = false) {G : Gl} (hg : gf G = true) {a1 : Int32} {post : Int32 → Mem → Prop} {μ : Mem} (h : wM_isFree a1 post μ) : Ct l G i_M_isFree [.inr (.inl (some 17)), .inl a1] μ (poI post) noX := by
  refine ct_of hl (by decide) (Nat.le_of_ble_eq_true rfl) ?_
  intro K hKl C Q hE
  clear hl hKl
  replace C : Cx K G prog_8_method_5_code "LineCollectorModel" 2 { frames := 1, cells := 0, slots := 0, locals := 23 } := C
  replace Q : Cq K G { frames := 1, cells := 0, slots := 0, locals := 23 } (some .boolean) (poI post) noX := Q
  show Rn K G 2 0 [(0, .inr (.inl (some 17))), (1, .inl a1)] [] μ 0 0
  unfold wM_isFree at h
  refine r_aload_n (pc := 0) C d_M_isFree_0 rfl 0 rfl ?_
  refine r_iload_n (pc := 1) C d_M_isFree_1 rfl 1 rfl ?_
  refine r_cVi (pc := 2) (a' := 0) (b' := 0) (As := [.inl a1]) (ci := 6) C (c_M_isUsed C.s hg h) o_M_isUsed rfl (lay_O hg rfl) (k_767 C.w) rfl ⟨by decide, by decide, by decide, by decide⟩ rfl rfl (Nat.le_of_ble_eq_true rfl) d_M_isFree_2 rfl ?_
  intro r2 μ1 h
  refine r_if_ne (tgt := 31) (pc := 5) C d_M_isFree_5 (by decide) ?_ ?_
  · intro hc; replace h := h.2 hc
    refine r_iconst (pc := 31) C d_M_isFree_31 (v := 0) (by decide) ?_
    exact r_zret (pc := 32) C Q (Or.inl rfl) d_M_isFree_32 (by decide) (by decide) h
  · intro hc; replace h := h.1 hc
    refine r_aload_n (pc := 8) C d_M_isFree_8 rfl 0 rfl ?_
    refine r_iload_n (pc := 9) C d_M_isFree_9 rfl 1 rfl ?_
    refine r_cVi (pc := 10) (a' := 0) (b' := 0) (As := [.inl a1]) (ci := 6) C (c_M_isTaken C.s hg h) o_M_isTaken rfl (lay_O hg rfl) (k_771 C.w) rfl ⟨by decide, by decide, by decide, by decide⟩ rfl rfl (Nat.le_of_ble_eq_true rfl) d_M_isFree_10 rfl ?_
    intro r4 μ3 h
    refine r_if_ne (tgt := 31) (pc := 13) C d_M_isFree_13 (by decide) ?_ ?_
    · intro hc; replace h := h.2 hc
      refine r_iconst (pc := 31) C d_M_isFree_31 (v := 0) (by decide) ?_
      exact r_zret (pc := 32) C Q (Or.inl rfl) d_M_isFree_32 (by decide) (by decide) h
    · intro hc; replace h := h.1 hc
      refine r_iload_n (pc := 16) C d_M_isFree_16 rfl 1 rfl ?_
      refine r_bipush (pc := 17) C d_M_isFree_17 (v := 8) (by decide) ?_
      refine r_idiv (pc := 19) C d_M_isFree_19 (by decide) ?_
      refine r_aload_n (pc := 20) C d_M_isFree_20 rfl 0 rfl ?_
      refine r_getI (pc := 21) (ci := 6) C rfl 19 (by decide) (k_669 C.w) rfl (lay_O hg rfl) d_M_isFree_21 ?_
      refine r_icmp_eq (tgt := 31) (pc := 24) C d_M_isFree_24 (by decide) ?_ ?_
      · intro hc; replace h := h.1 hc
        refine r_iconst (pc := 31) C d_M_isFree_31 (v := 0) (by decide) ?_
        exact r_zret (pc := 32) C Q (Or.inl rfl) d_M_isFree_32 (by decide) (by decide) h
      · intro hc; replace h := h.2 hc
        refine r_iconst (pc := 27) C d_M_isFree_27 (v := 1) (by decide) ?_
        refine r_goto (tgt := 32) (pc := 28) C d_M_isFree_28 (by decide) ?_
        exact r_zret (pc := 32) C Q (Or.inr rfl) d_M_isFree_32 (by decide) (by decide) h
theorem c_M_isFreeBlock {l : Launch} (hl : l.stackTraces = false) {G : Gl} (hg : gf G = true) {a1 : Int32} {post : Int32 → Mem → Prop} {μ : Mem} (h : wM_isFreeBlock a1 post μ) : Ct l G i_M_isFreeBlock [.inr (.inl (some 17)), .inl a1] μ (poI post) noX := by
  refine ct_of hl (by decide) (Nat.le_of_ble_eq_true rfl) ?_
  intro K hKl C Q hE
  clear hl hKl
  replace C : Cx K G prog_8_method_6_code "LineCollectorModel" 4 { frames := 2, cells := 0, slots := 0, locals := 44 } := C
  replace Q : Cq K G { frames := 2, cells := 0, slots := 0, locals := 44 } (some .boolean) (poI post) noX := Q
  show Rn K G 4 0 [(0, .inr (.inl (some 17))), (1, .inl a1)] [] μ 0 0
  have L_7 : ∀ (l1 : Int32) (k : Int32 → Int32 → Mem → Prop), (∀ (v2 : Int32) (v3 : Int32) (μ : Mem), k v2 v3 μ → Rn K G 4 42 [(2, .inl v2)] [] μ 0 0) → ∀ (n : Nat) (l2 : Int32) (l3 : Int32) (μ : Mem), wM_isFreeBlock_7 l1 k n l2 l3 μ → Rn K G 4 7 [(0, .inr (.inl (some 17))), (1, .inl l1), (2, .inl l2), (3, .inl l3)] [] μ 0 0 := by
    intro l1 k hk n
    induction n with
    | zero => intro l2 l3 μ h; exact h.elim
    | succ n ih =>
      intro l2 l3 μ h
      unfold wM_isFreeBlock_7 at h
      refine r_iload_n (pc := 7) C d_M_isFreeBlock_7 rfl 3 rfl ?_
      refine r_bipush (pc := 8) C d_M_isFreeBlock_8 (v := 8) (by decide) ?_
      refine r_iload_n (pc := 10) C d_M_isFreeBlock_10 rfl 1 rfl ?_
      refine r_imul (pc := 11) C d_M_isFreeBlock_11 ?_
      refine r_bipush (pc := 12) C d_M_isFreeBlock_12 (v := 8) (by decide) ?_
      refine r_iadd (pc := 14) C d_M_isFreeBlock_14 ?_
      refine r_icmp_ge (tgt := 42) (pc := 15) C d_M_isFreeBlock_15 (by decide) ?_ ?_
      · intro hc; replace h := h.1 hc
        refine r_sub [2] rfl ?_
        exact hk l2 l3 μ h
      · intro hc; replace h := h.2 hc
        refine r_iload_n (pc := 18) C d_M_isFreeBlock_18 rfl 2 rfl ?_
        refine r_if_eq (tgt := 34) (pc := 19) C d_M_isFreeBlock_19 (by decide) ?_ ?_
        · intro hc; replace h := h.1 hc
          refine r_iconst (pc := 34) C d_M_isFreeBlock_34 (v := 0) (by decide) ?_
          refine r_istore_n (pc := 35) (lv' := [(0, .inr (.inl (some 17))), (1, .inl l1), (3, .inl l3)]) C d_M_isFreeBlock_35 rfl (by decide) rfl ?_
          refine r_iinc (pc := 36) (v := 1) (lv' := [(2, .inl 0), (0, .inr (.inl (some 17))), (1, .inl l1)]) C d_M_isFreeBlock_36 3 rfl (by decide) (by decide) rfl ?_
          refine r_goto (tgt := 7) (pc := 39) C d_M_isFreeBlock_39 (by decide) ?_
          refine r_sub [2, 3, 1, 0] rfl ?_
          exact ih 0 (l3 + 1) μ h
        · intro hc; replace h := h.2 hc
          refine r_aload_n (pc := 22) C d_M_isFreeBlock_22 rfl 0 rfl ?_
          refine r_iload_n (pc := 23) C d_M_isFreeBlock_23 rfl 3 rfl ?_
          refine r_cVi (pc := 24) (a' := 0) (b' := 0) (As := [.inl l3]) (ci := 6) C (c_M_isFree C.s hg h) o_M_isFree rfl (lay_O hg rfl) (k_763 C.w) rfl ⟨by decide, by decide, by decide, by decide⟩ rfl rfl (Nat.le_of_ble_eq_true rfl) d_M_isFreeBlock_24 rfl ?_
          intro r2 μ1 h
          refine r_if_eq (tgt := 34) (pc := 27) C d_M_isFreeBlock_27 (by decide) ?_ ?_
          · intro hc; replace h := h.1 hc
            refine r_iconst (pc := 34) C d_M_isFreeBlock_34 (v := 0) (by decide) ?_
            refine r_istore_n (pc := 35) (lv' := [(0, .inr (.inl (some 17))), (1, .inl l1), (3, .inl l3)]) C d_M_isFreeBlock_35 rfl (by decide) rfl ?_
            refine r_iinc (pc := 36) (v := 1) (lv' := [(2, .inl 0), (0, .inr (.inl (some 17))), (1, .inl l1)]) C d_M_isFreeBlock_36 3 rfl (by decide) (by decide) rfl ?_
            refine r_goto (tgt := 7) (pc := 39) C d_M_isFreeBlock_39 (by decide) ?_
            refine r_sub [2, 3, 1, 0] rfl ?_
            exact ih 0 (l3 + 1) μ1 h
          · intro hc; replace h := h.2 hc
            refine r_iconst (pc := 30) C d_M_isFreeBlock_30 (v := 1) (by decide) ?_
            refine r_goto (tgt := 35) (pc := 31) C d_M_isFreeBlock_31 (by decide) ?_
            refine r_istore_n (pc := 35) (lv' := [(0, .inr (.inl (some 17))), (1, .inl l1), (3, .inl l3)]) C d_M_isFreeBlock_35 rfl (by decide) rfl ?_
            refine r_iinc (pc := 36) (v := 1) (lv' := [(2, .inl 1), (0, .inr (.inl (some 17))), (1, .inl l1)]) C d_M_isFreeBlock_36 3 rfl (by decide) (by decide) rfl ?_
            refine r_goto (tgt := 7) (pc := 39) C d_M_isFreeBlock_39 (by decide) ?_
            refine r_sub [2, 3, 1, 0] rfl ?_
            exact ih 1 (l3 + 1) μ1 h
  unfold wM_isFreeBlock at h
  refine r_iconst (pc := 0) C d_M_isFreeBlock_0 (v := 1) (by decide) ?_
  refine r_istore_n (pc := 1) (lv' := [(0, .inr (.inl (some 17))), (1, .inl a1)]) C d_M_isFreeBlock_1 rfl (by decide) rfl ?_
  refine r_bipush (pc := 2) C d_M_isFreeBlock_2 (v := 8) (by decide) ?_
  refine r_iload_n (pc := 4) C d_M_isFreeBlock_4 rfl 2 rfl ?_
  refine r_imul (pc := 5) C d_M_isFreeBlock_5 ?_
  refine r_istore_n (pc := 6) (lv' := [(2, .inl 1), (0, .inr (.inl (some 17))), (1, .inl a1)]) C d_M_isFreeBlock_6 rfl (by decide) rfl ?_
  obtain ⟨n7, h⟩ := h
  refine r_sub [2, 3, 1, 0] rfl ?_
  refine L_7 a1 _ ?_ n7 1 (8 * a1) μ h
  intro v4 v5 μ3 h
  refine r_iload_n (pc := 42) C d_M_isFreeBlock_42 rfl 0 rfl ?_
  obtain ⟨z6, h⟩ := h
  exact r_zret (pc := 43) C Q z6 d_M_isFreeBlock_43 (by decide) (by decide) h
theorem c_M_forget {l : Launch} (hl : l.stackTraces = false) {G : Gl} (hg : gf G = true) {post : Mem → Prop} {μ : Mem} (h : wM_forget post μ) : Ct l G i_M_forget [.inr (.inl (some 17))] μ (poV post) noX := by
  refine ct_of hl (by decide) (Nat.le_of_ble_eq_true rfl) ?_
  intro K hKl C Q hE
  clear hl hKl
  replace C : Cx K G prog_8_method_7_code "LineCollectorModel" 1 { frames := 0, cells := 0, slots := 0, locals := 0 } := C
  replace Q : Cq K G { frames := 0, cells := 0, slots := 0, locals := 0 } (none) (poV post) noX := Q
  show Rn K G 1 0 [(0, .inr (.inl (some 17)))] [] μ 0 0
  unfold wM_forget at h
  refine r_aload_n (pc := 0) C d_M_forget_0 rfl 0 rfl ?_
  refine r_iconst (pc := 1) C d_M_forget_1 (v := (-1)) (by decide) ?_
  refine r_putI (pc := 2) (ci := 6) C rfl 13 (by decide) (k_663 C.w) rfl rfl p_I (lay_O hg rfl) d_M_forget_2 ?_
  intro μ1 eμ1; replace h := h μ1 eμ1
  refine r_aload_n (pc := 5) C d_M_forget_5 rfl 0 rfl ?_
  refine r_iconst (pc := 6) C d_M_forget_6 (v := (-1)) (by decide) ?_
  refine r_putI (pc := 7) (ci := 6) C rfl 16 (by decide) (k_666 C.w) rfl rfl p_I (lay_O hg rfl) d_M_forget_7 ?_
  intro μ2 eμ2; replace h := h μ2 eμ2
  exact r_vret (pc := 10) C Q d_M_forget_10 (by decide) (by decide) h
theorem c_M_placeInBlock {l : Launch} (hl : l.stackTraces = false) {G : Gl} (hg : gf G = true) {a1 : Int32} {post : Int32 → Mem → Prop} {μ : Mem} (h : wM_placeInBlock a1 post μ) : Ct l G i_M_placeInBlock [.inr (.inl (some 17)), .inl a1] μ (poI post) noX := by
  refine ct_of hl (by decide) (Nat.le_of_ble_eq_true rfl) ?_
  intro K hKl C Q hE
  clear hl hKl
  replace C : Cx K G prog_8_method_10_code "LineCollectorModel" 3 { frames := 3, cells := 0, slots := 0, locals := 67 } := C
  replace Q : Cq K G { frames := 3, cells := 0, slots := 0, locals := 67 } (some .int) (poI post) noX := Q
  show Rn K G 3 0 [(0, .inr (.inl (some 17))), (1, .inl a1)] [] μ 0 0
  have L_45 : ∀ (l1 : Int32) (k : Int32 → Mem → Prop), (∀ (v2 : Int32) (μ : Mem), k v2 μ → Rn K G 3 64 [(0, .inr (.inl (some 17))), (1, .inl l1), (2, .inl v2)] [] μ 0 0) → ∀ (n : Nat) (l2 : Int32) (μ : Mem), wM_placeInBlock_45 k n l2 μ → Rn K G 3 45 [(0, .inr (.inl (some 17))), (1, .inl l1), (2, .inl l2)] [] μ 0 0 := by
    intro l1 k hk n
    induction n with
    | zero => intro l2 μ h; exact h.elim
    | succ n ih =>
      intro l2 μ h
      unfold wM_placeInBlock_45 at h
      refine r_iload_n (pc := 45) C d_M_placeInBlock_45 rfl 2 rfl ?_
      refine r_iconst (pc := 46) C d_M_placeInBlock_46 (v := 4) (by decide) ?_
      refine r_icmp_ge (tgt := 64) (pc := 47) C d_M_placeInBlock_47 (by decide) ?_ ?_
      · intro hc; replace h := h.1 hc
        exact hk l2 μ h
      · intro hc; replace h := h.2 hc
        refine r_aload_n (pc := 50) C d_M_placeInBlock_50 rfl 0 rfl ?_
        refine r_iload_n (pc := 51) C d_M_placeInBlock_51 rfl 2 rfl ?_
        refine r_cVi (pc := 52) (a' := 0) (b' := 0) (As := [.inl l2]) (ci := 6) C (c_M_isFreeBlock C.s hg h) o_M_isFreeBlock rfl (lay_O hg rfl) (k_779 C.w) rfl ⟨by decide, by decide, by decide, by decide⟩ rfl rfl (Nat.le_of_ble_eq_true rfl) d_M_placeInBlock_52 rfl ?_
        intro r2 μ1 h
        refine r_if_ne (tgt := 64) (pc := 55) C d_M_placeInBlock_55 (by decide) ?_ ?_
        · intro hc; replace h := h.2 hc
          exact hk l2 μ1 h
        · intro hc; replace h := h.1 hc
          refine r_iinc (pc := 58) (v := 1) (lv' := [(0, .inr (.inl (some 17))), (1, .inl l1)]) C d_M_placeInBlock_58 2 rfl (by decide) (by decide) rfl ?_
          refine r_goto (tgt := 45) (pc := 61) C d_M_placeInBlock_61 (by decide) ?_
          refine r_sub [1, 2, 0] rfl ?_
          exact ih (l2 + 1) μ1 h
  have J_64 : ∀ (l1 : Int32) (l2 : Int32) (μ : Mem), wM_placeInBlock_64 l1 l2 post μ → Rn K G 3 64 [(0, .inr (.inl (some 17))), (1, .inl l1), (2, .inl l2)] [] μ 0 0 := by
    intro l1 l2 μ h
    unfold wM_placeInBlock_64 at h
    refine r_iload_n (pc := 64) C d_M_placeInBlock_64 rfl 2 rfl ?_
    refine r_iconst (pc := 65) C d_M_placeInBlock_65 (v := 4) (by decide) ?_
    refine r_icmp_ne (tgt := 71) (pc := 66) C d_M_placeInBlock_66 (by decide) ?_ ?_
    · intro hc; replace h := h.2 hc
      refine r_aload_n (pc := 71) C d_M_placeInBlock_71 rfl 0 rfl ?_
      refine r_iload_n (pc := 72) C d_M_placeInBlock_72 rfl 2 rfl ?_
      refine r_putI (pc := 73) (ci := 6) C rfl 16 (by decide) (k_666 C.w) rfl rfl p_I (lay_O hg rfl) d_M_placeInBlock_73 ?_
      intro μ5 eμ5; replace h := h μ5 eμ5
      refine r_aload_n (pc := 76) C d_M_placeInBlock_76 rfl 0 rfl ?_
      refine r_bipush (pc := 77) C d_M_placeInBlock_77 (v := 32) (by decide) ?_
      refine r_iload_n (pc := 79) C d_M_placeInBlock_79 rfl 2 rfl ?_
      refine r_imul (pc := 80) C d_M_placeInBlock_80 ?_
      refine r_iload_n (pc := 81) C d_M_placeInBlock_81 rfl 1 rfl ?_
      refine r_iadd (pc := 82) C d_M_placeInBlock_82 ?_
      refine r_putI (pc := 83) (ci := 6) C rfl 17 (by decide) (k_667 C.w) rfl rfl p_I (lay_O hg rfl) d_M_placeInBlock_83 ?_
      intro μ6 eμ6; replace h := h μ6 eμ6
      refine r_bipush (pc := 86) C d_M_placeInBlock_86 (v := 32) (by decide) ?_
      refine r_iload_n (pc := 88) C d_M_placeInBlock_88 rfl 2 rfl ?_
      refine r_imul (pc := 89) C d_M_placeInBlock_89 ?_
      exact r_iret (pc := 90) C Q d_M_placeInBlock_90 (by decide) (by decide) h
    · intro hc; replace h := h.1 hc
      refine r_iconst (pc := 69) C d_M_placeInBlock_69 (v := (-1)) (by decide) ?_
      exact r_iret (pc := 70) C Q d_M_placeInBlock_70 (by decide) (by decide) h
  have J_43 : ∀ (l1 : Int32) (μ : Mem), wM_placeInBlock_43 l1 post μ → Rn K G 3 43 [(0, .inr (.inl (some 17))), (1, .inl l1)] [] μ 0 0 := by
    intro l1 μ h
    unfold wM_placeInBlock_43 at h
    refine r_iconst (pc := 43) C d_M_placeInBlock_43 (v := 0) (by decide) ?_
    refine r_istore_n (pc := 44) (lv' := [(0, .inr (.inl (some 17))), (1, .inl l1)]) C d_M_placeInBlock_44 rfl (by decide) rfl ?_
    obtain ⟨n7, h⟩ := h
    refine r_sub [1, 2, 0] rfl ?_
    refine L_45 l1 _ ?_ n7 0 μ h
    intro v4 μ3 h
    exact J_64 l1 v4 μ3 h
  unfold wM_placeInBlock at h
  refine r_aload_n (pc := 0) C d_M_placeInBlock_0 rfl 0 rfl ?_
  refine r_getI (pc := 1) (ci := 6) C rfl 16 (by decide) (k_666 C.w) rfl (lay_O hg rfl) d_M_placeInBlock_1 ?_
  refine r_if_lt (tgt := 43) (pc := 4) C d_M_placeInBlock_4 (by decide) ?_ ?_
  · intro hc; replace h := h.1 hc
    exact J_43 a1 μ h
  · intro hc; replace h := h.2 hc
    refine r_aload_n (pc := 7) C d_M_placeInBlock_7 rfl 0 rfl ?_
    refine r_getI (pc := 8) (ci := 6) C rfl 17 (by decide) (k_667 C.w) rfl (lay_O hg rfl) d_M_placeInBlock_8 ?_
    refine r_iload_n (pc := 11) C d_M_placeInBlock_11 rfl 1 rfl ?_
    refine r_iadd (pc := 12) C d_M_placeInBlock_12 ?_
    refine r_bipush (pc := 13) C d_M_placeInBlock_13 (v := 32) (by decide) ?_
    refine r_aload_n (pc := 15) C d_M_placeInBlock_15 rfl 0 rfl ?_
    refine r_getI (pc := 16) (ci := 6) C rfl 16 (by decide) (k_666 C.w) rfl (lay_O hg rfl) d_M_placeInBlock_16 ?_
    refine r_imul (pc := 19) C d_M_placeInBlock_19 ?_
    refine r_bipush (pc := 20) C d_M_placeInBlock_20 (v := 32) (by decide) ?_
    refine r_iadd (pc := 22) C d_M_placeInBlock_22 ?_
    refine r_icmp_gt (tgt := 43) (pc := 23) C d_M_placeInBlock_23 (by decide) ?_ ?_
    · intro hc; replace h := h.1 hc
      exact J_43 a1 μ h
    · intro hc; replace h := h.2 hc
      refine r_aload_n (pc := 26) C d_M_placeInBlock_26 rfl 0 rfl ?_
      refine r_aload_n (pc := 27) C d_M_placeInBlock_27 rfl 0 rfl ?_
      refine r_getI (pc := 28) (ci := 6) C rfl 17 (by decide) (k_667 C.w) rfl (lay_O hg rfl) d_M_placeInBlock_28 ?_
      refine r_iload_n (pc := 31) C d_M_placeInBlock_31 rfl 1 rfl ?_
      refine r_iadd (pc := 32) C d_M_placeInBlock_32 ?_
      refine r_putI (pc := 33) (ci := 6) C rfl 17 (by decide) (k_667 C.w) rfl rfl p_I (lay_O hg rfl) d_M_placeInBlock_33 ?_
      intro μ8 eμ8; replace h := h μ8 eμ8
      refine r_aload_n (pc := 36) C d_M_placeInBlock_36 rfl 0 rfl ?_
      refine r_getI (pc := 37) (ci := 6) C rfl 17 (by decide) (k_667 C.w) rfl (lay_O hg rfl) d_M_placeInBlock_37 ?_
      refine r_iload_n (pc := 40) C d_M_placeInBlock_40 rfl 1 rfl ?_
      refine r_isub (pc := 41) C d_M_placeInBlock_41 ?_
      exact r_iret (pc := 42) C Q d_M_placeInBlock_42 (by decide) (by decide) h
theorem c_M_placeInLines {l : Launch} (hl : l.stackTraces = false) {G : Gl} (hg : gf G = true) {a1 : Int32} {post : Int32 → Mem → Prop} {μ : Mem} (h : wM_placeInLines a1 post μ) : Ct l G i_M_placeInLines [.inr (.inl (some 17)), .inl a1] μ (poI post) noX := by
  refine ct_of hl (by decide) (Nat.le_of_ble_eq_true rfl) ?_
  intro K hKl C Q hE
  clear hl hKl
  replace C : Cx K G prog_8_method_9_code "LineCollectorModel" 6 { frames := 2, cells := 0, slots := 0, locals := 44 } := C
  replace Q : Cq K G { frames := 2, cells := 0, slots := 0, locals := 44 } (some .int) (poI post) noX := Q
  show Rn K G 6 0 [(0, .inr (.inl (some 17))), (1, .inl a1)] [] μ 0 0
  have L_18 : ∀ (l2 : Int32) (l1 : Int32) (k : Int32 → Mem → Prop), (∀ (v3 : Int32) (μ : Mem), k v3 μ → Rn K G 6 43 [(0, .inr (.inl (some 17))), (1, .inl l1), (2, .inl l2), (3, .inl v3)] [] μ 0 0) → ∀ (n : Nat) (l3 : Int32) (μ : Mem), wM_placeInLines_18 l2 k n l3 μ → Rn K G 6 18 [(0, .inr (.inl (some 17))), (1, .inl l1), (2, .inl l2), (3, .inl l3)] [] μ 0 0 := by
    intro l2 l1 k hk n
    induction n with
    | zero => intro l3 μ h; exact h.elim
    | succ n ih =>
      intro l3 μ h
      unfold wM_placeInLines_18 at h
      refine r_iload_n (pc := 18) C d_M_placeInLines_18 rfl 3 rfl ?_
      refine r_bipush (pc := 19) C d_M_placeInLines_19 (v := 32) (by decide) ?_
      refine r_icmp_ge (tgt := 43) (pc := 21) C d_M_placeInLines_21 (by decide) ?_ ?_
      · intro hc; replace h := h.1 hc
        exact hk l3 μ h
      · intro hc; replace h := h.2 hc
        refine r_aload_n (pc := 24) C d_M_placeInLines_24 rfl 0 rfl ?_
        refine r_iload_n (pc := 25) C d_M_placeInLines_25 rfl 2 rfl ?_
        refine r_iload_n (pc := 26) C d_M_placeInLines_26 rfl 3 rfl ?_
        refine r_iadd (pc := 27) C d_M_placeInLines_27 ?_
        refine r_bipush (pc := 28) C d_M_placeInLines_28 (v := 32) (by decide) ?_
        refine r_irem (pc := 30) C d_M_placeInLines_30 (by decide) ?_
        refine r_cVi (pc := 31) (a' := 0) (b' := 0) (As := [.inl ((l2 + l3) - (l2 + l3) / 32 * 32)]) (ci := 6) C (c_M_isFree C.s hg h) o_M_isFree rfl (lay_O hg rfl) (k_763 C.w) rfl ⟨by decide, by decide, by decide, by decide⟩ rfl rfl (Nat.le_of_ble_eq_true rfl) d_M_placeInLines_31 rfl ?_
        intro r2 μ1 h
        refine r_if_ne (tgt := 43) (pc := 34) C d_M_placeInLines_34 (by decide) ?_ ?_
        · intro hc; replace h := h.2 hc
          exact hk l3 μ1 h
        · intro hc; replace h := h.1 hc
          refine r_iinc (pc := 37) (v := 1) (lv' := [(0, .inr (.inl (some 17))), (1, .inl l1), (2, .inl l2)]) C d_M_placeInLines_37 3 rfl (by decide) (by decide) rfl ?_
          refine r_goto (tgt := 18) (pc := 40) C d_M_placeInLines_40 (by decide) ?_
          refine r_sub [1, 2, 3, 0] rfl ?_
          exact ih (l3 + 1) μ1 h
  have L_65 : ∀ (l4 : Int32) (l1 : Int32) (k : Int32 → Mem → Prop), (∀ (v5 : Int32) (μ : Mem), k v5 μ → Rn K G 6 93 [(0, .inr (.inl (some 17))), (1, .inl l1), (4, .inl l4), (5, .inl v5)] [] μ 0 0) → ∀ (n : Nat) (l5 : Int32) (μ : Mem), wM_placeInLines_65 l4 k n l5 μ → Rn K G 6 65 [(0, .inr (.inl (some 17))), (1, .inl l1), (4, .inl l4), (5, .inl l5)] [] μ 0 0 := by
    intro l4 l1 k hk n
    induction n with
    | zero => intro l5 μ h; exact h.elim
    | succ n ih =>
      intro l5 μ h
      unfold wM_placeInLines_65 at h
      refine r_iload (pc := 65) C d_M_placeInLines_65 3 rfl ?_
      refine r_bipush (pc := 67) C d_M_placeInLines_67 (v := 8) (by decide) ?_
      refine r_idiv (pc := 69) C d_M_placeInLines_69 (by decide) ?_
      refine r_iload (pc := 70) C d_M_placeInLines_70 2 rfl ?_
      refine r_bipush (pc := 72) C d_M_placeInLines_72 (v := 8) (by decide) ?_
      refine r_idiv (pc := 74) C d_M_placeInLines_74 (by decide) ?_
      refine r_icmp_ne (tgt := 93) (pc := 75) C d_M_placeInLines_75 (by decide) ?_ ?_
      · intro hc; replace h := h.2 hc
        exact hk l5 μ h
      · intro hc; replace h := h.1 hc
        refine r_aload_n (pc := 78) C d_M_placeInLines_78 rfl 0 rfl ?_
        refine r_iload (pc := 79) C d_M_placeInLines_79 3 rfl ?_
        refine r_cVi (pc := 81) (a' := 0) (b' := 0) (As := [.inl l5]) (ci := 6) C (c_M_isFree C.s hg h) o_M_isFree rfl (lay_O hg rfl) (k_763 C.w) rfl ⟨by decide, by decide, by decide, by decide⟩ rfl rfl (Nat.le_of_ble_eq_true rfl) d_M_placeInLines_81 rfl ?_
        intro r6 μ5 h
        refine r_if_eq (tgt := 93) (pc := 84) C d_M_placeInLines_84 (by decide) ?_ ?_
        · intro hc; replace h := h.1 hc
          exact hk l5 μ5 h
        · intro hc; replace h := h.2 hc
          refine r_iinc (pc := 87) (v := 1) (lv' := [(0, .inr (.inl (some 17))), (1, .inl l1), (4, .inl l4)]) C d_M_placeInLines_87 3 rfl (by decide) (by decide) rfl ?_
          refine r_goto (tgt := 65) (pc := 90) C d_M_placeInLines_90 (by decide) ?_
          refine r_sub [1, 2, 3, 0] rfl ?_
          exact ih (l5 + 1) μ5 h
  have J_93 : ∀ (l1 : Int32) (l4 : Int32) (l5 : Int32) (μ : Mem), wM_placeInLines_93 l1 l4 l5 post μ → Rn K G 6 93 [(0, .inr (.inl (some 17))), (1, .inl l1), (4, .inl l4), (5, .inl l5)] [] μ 0 0 := by
    intro l1 l4 l5 μ h
    unfold wM_placeInLines_93 at h
    refine r_aload_n (pc := 93) C d_M_placeInLines_93 rfl 0 rfl ?_
    refine r_iload (pc := 94) C d_M_placeInLines_94 2 rfl ?_
    refine r_putI (pc := 96) (ci := 6) C rfl 13 (by decide) (k_663 C.w) rfl rfl p_I (lay_O hg rfl) d_M_placeInLines_96 ?_
    intro μ9 eμ9; replace h := h μ9 eμ9
    refine r_aload_n (pc := 99) C d_M_placeInLines_99 rfl 0 rfl ?_
    refine r_iload (pc := 100) C d_M_placeInLines_100 3 rfl ?_
    refine r_putI (pc := 102) (ci := 6) C rfl 14 (by decide) (k_664 C.w) rfl rfl p_I (lay_O hg rfl) d_M_placeInLines_102 ?_
    intro μ10 eμ10; replace h := h μ10 eμ10
    refine r_aload_n (pc := 105) C d_M_placeInLines_105 rfl 0 rfl ?_
    refine r_iconst (pc := 106) C d_M_placeInLines_106 (v := 4) (by decide) ?_
    refine r_iload (pc := 107) C d_M_placeInLines_107 2 rfl ?_
    refine r_imul (pc := 109) C d_M_placeInLines_109 ?_
    refine r_iload_n (pc := 110) C d_M_placeInLines_110 rfl 1 rfl ?_
    refine r_iadd (pc := 111) C d_M_placeInLines_111 ?_
    refine r_putI (pc := 112) (ci := 6) C rfl 15 (by decide) (k_665 C.w) rfl rfl p_I (lay_O hg rfl) d_M_placeInLines_112 ?_
    intro μ11 eμ11; replace h := h μ11 eμ11
    refine r_iconst (pc := 115) C d_M_placeInLines_115 (v := 4) (by decide) ?_
    refine r_iload (pc := 116) C d_M_placeInLines_116 2 rfl ?_
    refine r_imul (pc := 118) C d_M_placeInLines_118 ?_
    exact r_iret (pc := 119) C Q d_M_placeInLines_119 (by decide) (by decide) h
  have J_43 : ∀ (l1 : Int32) (l2 : Int32) (l3 : Int32) (μ : Mem), wM_placeInLines_43 l1 l2 l3 post μ → Rn K G 6 43 [(0, .inr (.inl (some 17))), (1, .inl l1), (2, .inl l2), (3, .inl l3)] [] μ 0 0 := by
    intro l1 l2 l3 μ h
    unfold wM_placeInLines_43 at h
    refine r_iload_n (pc := 43) C d_M_placeInLines_43 rfl 3 rfl ?_
    refine r_bipush (pc := 44) C d_M_placeInLines_44 (v := 32) (by decide) ?_
    refine r_icmp_ne (tgt := 51) (pc := 46) C d_M_placeInLines_46 (by decide) ?_ ?_
    · intro hc; replace h := h.2 hc
      refine r_iload_n (pc := 51) C d_M_placeInLines_51 rfl 2 rfl ?_
      refine r_iload_n (pc := 52) C d_M_placeInLines_52 rfl 3 rfl ?_
      refine r_iadd (pc := 53) C d_M_placeInLines_53 ?_
      refine r_bipush (pc := 54) C d_M_placeInLines_54 (v := 32) (by decide) ?_
      refine r_irem (pc := 56) C d_M_placeInLines_56 (by decide) ?_
      refine r_istore (pc := 57) (lv' := [(0, .inr (.inl (some 17))), (1, .inl l1), (2, .inl l2), (3, .inl l3)]) C d_M_placeInLines_57 (by decide) rfl ?_
      refine r_iload (pc := 59) C d_M_placeInLines_59 0 rfl ?_
      refine r_iconst (pc := 61) C d_M_placeInLines_61 (v := 1) (by decide) ?_
      refine r_iadd (pc := 62) C d_M_placeInLines_62 ?_
      refine r_istore (pc := 63) (lv' := [(4, .inl ((l2 + l3) - (l2 + l3) / 32 * 32)), (0, .inr (.inl (some 17))), (1, .inl l1), (2, .inl l2), (3, .inl l3)]) C d_M_placeInLines_63 (by decide) rfl ?_
      obtain ⟨n12, h⟩ := h
      refine r_sub [2, 3, 1, 0] rfl ?_
      refine L_65 ((l2 + l3) - (l2 + l3) / 32 * 32) l1 _ ?_ n12 (((l2 + l3) - (l2 + l3) / 32 * 32) + 1) μ h
      intro v8 μ7 h
      exact J_93 l1 ((l2 + l3) - (l2 + l3) / 32 * 32) v8 μ7 h
    · intro hc; replace h := h.1 hc
      refine r_iconst (pc := 49) C d_M_placeInLines_49 (v := (-1)) (by decide) ?_
      exact r_iret (pc := 50) C Q d_M_placeInLines_50 (by decide) (by decide) h
  have J_15 : ∀ (l1 : Int32) (t0 : Int32) (μ : Mem), wM_placeInLines_15 l1 t0 post μ → Rn K G 6 15 [(0, .inr (.inl (some 17))), (1, .inl l1)] [.int t0] μ 0 0 := by
    intro l1 t0 μ h
    unfold wM_placeInLines_15 at h
    refine r_istore_n (pc := 15) (lv' := [(0, .inr (.inl (some 17))), (1, .inl l1)]) C d_M_placeInLines_15 rfl (by decide) rfl ?_
    refine r_iconst (pc := 16) C d_M_placeInLines_16 (v := 0) (by decide) ?_
    refine r_istore_n (pc := 17) (lv' := [(2, .inl t0), (0, .inr (.inl (some 17))), (1, .inl l1)]) C d_M_placeInLines_17 rfl (by decide) rfl ?_
    obtain ⟨n13, h⟩ := h
    refine r_sub [2, 3, 1, 0] rfl ?_
    refine L_18 t0 l1 _ ?_ n13 0 μ h
    intro v4 μ3 h
    exact J_43 l1 t0 v4 μ3 h
  unfold wM_placeInLines at h
  refine r_aload_n (pc := 0) C d_M_placeInLines_0 rfl 0 rfl ?_
  refine r_getI (pc := 1) (ci := 6) C rfl 13 (by decide) (k_663 C.w) rfl (lay_O hg rfl) d_M_placeInLines_1 ?_
  refine r_if_ge (tgt := 11) (pc := 4) C d_M_placeInLines_4 (by decide) ?_ ?_
  · intro hc; replace h := h.1 hc
    refine r_aload_n (pc := 11) C d_M_placeInLines_11 rfl 0 rfl ?_
    refine r_getI (pc := 12) (ci := 6) C rfl 14 (by decide) (k_664 C.w) rfl (lay_O hg rfl) d_M_placeInLines_12 ?_
    exact J_15 a1 (mI μ 17 14) μ h
  · intro hc; replace h := h.2 hc
    refine r_iconst (pc := 7) C d_M_placeInLines_7 (v := 0) (by decide) ?_
    refine r_goto (tgt := 15) (pc := 8) C d_M_placeInLines_8 (by decide) ?_
    exact J_15 a1 0 μ h
theorem c_M_place {l : Launch} (hl : l.stackTraces = false) {G : Gl} (hg : gf G = true) {a1 : Int32} {post : Int32 → Mem → Prop} {μ : Mem} (h : wM_place a1 post μ) : Ct l G i_M_place [.inr (.inl (some 17)), .inl a1] μ (poI post) noX := by
  refine ct_of hl (by decide) (Nat.le_of_ble_eq_true rfl) ?_
  intro K hKl C Q hE
  clear hl hKl
  replace C : Cx K G prog_8_method_8_code "LineCollectorModel" 2 { frames := 4, cells := 0, slots := 0, locals := 89 } := C
  replace Q : Cq K G { frames := 4, cells := 0, slots := 0, locals := 89 } (some .int) (poI post) noX := Q
  show Rn K G 2 0 [(0, .inr (.inl (some 17))), (1, .inl a1)] [] μ 0 0
  have J_39 : ∀ (l1 : Int32) (μ : Mem), wM_place_39 l1 post μ → Rn K G 2 39 [(0, .inr (.inl (some 17))), (1, .inl l1)] [] μ 0 0 := by
    intro l1 μ h
    unfold wM_place_39 at h
    refine r_iload_n (pc := 39) C d_M_place_39 rfl 1 rfl ?_
    refine r_iconst (pc := 40) C d_M_place_40 (v := 4) (by decide) ?_
    refine r_icmp_gt (tgt := 52) (pc := 41) C d_M_place_41 (by decide) ?_ ?_
    · intro hc; replace h := h.1 hc
      refine r_aload_n (pc := 52) C d_M_place_52 rfl 0 rfl ?_
      refine r_iload_n (pc := 53) C d_M_place_53 rfl 1 rfl ?_
      refine r_cVi (pc := 54) (a' := 0) (b' := 0) (As := [.inl l1]) (ci := 6) C (c_M_placeInBlock C.s hg h) o_M_placeInBlock rfl (lay_O hg rfl) (k_775 C.w) rfl ⟨by decide, by decide, by decide, by decide⟩ rfl rfl (Nat.le_of_ble_eq_true rfl) d_M_place_54 rfl ?_
      intro r2 μ1 h
      exact r_iret (pc := 57) C Q d_M_place_57 (by decide) (by decide) h
    · intro hc; replace h := h.2 hc
      refine r_aload_n (pc := 44) C d_M_place_44 rfl 0 rfl ?_
      refine r_iload_n (pc := 45) C d_M_place_45 rfl 1 rfl ?_
      refine r_cVi (pc := 46) (a' := 0) (b' := 0) (As := [.inl l1]) (ci := 6) C (c_M_placeInLines C.s hg h) o_M_placeInLines rfl (lay_O hg rfl) (k_759 C.w) rfl ⟨by decide, by decide, by decide, by decide⟩ rfl rfl (Nat.le_of_ble_eq_true rfl) d_M_place_46 rfl ?_
      intro r4 μ3 h
      refine r_goto (tgt := 57) (pc := 49) C d_M_place_49 (by decide) ?_
      exact r_iret (pc := 57) C Q d_M_place_57 (by decide) (by decide) h
  unfold wM_place at h
  refine r_aload_n (pc := 0) C d_M_place_0 rfl 0 rfl ?_
  refine r_getI (pc := 1) (ci := 6) C rfl 13 (by decide) (k_663 C.w) rfl (lay_O hg rfl) d_M_place_1 ?_
  refine r_if_lt (tgt := 39) (pc := 4) C d_M_place_4 (by decide) ?_ ?_
  · intro hc; replace h := h.1 hc
    exact J_39 a1 μ h
  · intro hc; replace h := h.2 hc
    refine r_aload_n (pc := 7) C d_M_place_7 rfl 0 rfl ?_
    refine r_getI (pc := 8) (ci := 6) C rfl 15 (by decide) (k_665 C.w) rfl (lay_O hg rfl) d_M_place_8 ?_
    refine r_iload_n (pc := 11) C d_M_place_11 rfl 1 rfl ?_
    refine r_iadd (pc := 12) C d_M_place_12 ?_
    refine r_iconst (pc := 13) C d_M_place_13 (v := 4) (by decide) ?_
    refine r_aload_n (pc := 14) C d_M_place_14 rfl 0 rfl ?_
    refine r_getI (pc := 15) (ci := 6) C rfl 14 (by decide) (k_664 C.w) rfl (lay_O hg rfl) d_M_place_15 ?_
    refine r_imul (pc := 18) C d_M_place_18 ?_
    refine r_icmp_gt (tgt := 39) (pc := 19) C d_M_place_19 (by decide) ?_ ?_
    · intro hc; replace h := h.1 hc
      exact J_39 a1 μ h
    · intro hc; replace h := h.2 hc
      refine r_aload_n (pc := 22) C d_M_place_22 rfl 0 rfl ?_
      refine r_aload_n (pc := 23) C d_M_place_23 rfl 0 rfl ?_
      refine r_getI (pc := 24) (ci := 6) C rfl 15 (by decide) (k_665 C.w) rfl (lay_O hg rfl) d_M_place_24 ?_
      refine r_iload_n (pc := 27) C d_M_place_27 rfl 1 rfl ?_
      refine r_iadd (pc := 28) C d_M_place_28 ?_
      refine r_putI (pc := 29) (ci := 6) C rfl 15 (by decide) (k_665 C.w) rfl rfl p_I (lay_O hg rfl) d_M_place_29 ?_
      intro μ5 eμ5; replace h := h μ5 eμ5
      refine r_aload_n (pc := 32) C d_M_place_32 rfl 0 rfl ?_
      refine r_getI (pc := 33) (ci := 6) C rfl 15 (by decide) (k_665 C.w) rfl (lay_O hg rfl) d_M_place_33 ?_
      refine r_iload_n (pc := 36) C d_M_place_36 rfl 1 rfl ?_
      refine r_isub (pc := 37) C d_M_place_37 ?_
      exact r_iret (pc := 38) C Q d_M_place_38 (by decide) (by decide) h
theorem c_M_objectAt {l : Launch} (hl : l.stackTraces = false) {G : Gl} (hg : gf G = true) {a1 : Int32} {post : Int32 → Mem → Prop} {μ : Mem} (h : wM_objectAt a1 post μ) : Ct l G i_M_objectAt [.inr (.inl (some 17)), .inl a1] μ (poI post) noX := by
  refine ct_of hl (by decide) (Nat.le_of_ble_eq_true rfl) ?_
  intro K hKl C Q hE
  clear hl hKl
  replace C : Cx K G prog_8_method_11_code "LineCollectorModel" 2 { frames := 0, cells := 0, slots := 0, locals := 0 } := C
  replace Q : Cq K G { frames := 0, cells := 0, slots := 0, locals := 0 } (some .int) (poI post) noX := Q
  show Rn K G 2 0 [(0, .inr (.inl (some 17))), (1, .inl a1)] [] μ 0 0
  unfold wM_objectAt at h
  refine r_iload_n (pc := 0) C d_M_objectAt_0 rfl 1 rfl ?_
  refine r_if_lt (tgt := 19) (pc := 1) C d_M_objectAt_1 (by decide) ?_ ?_
  · intro hc; replace h := h.1 hc
    refine r_iconst (pc := 19) C d_M_objectAt_19 (v := (-1)) (by decide) ?_
    exact r_iret (pc := 20) C Q d_M_objectAt_20 (by decide) (by decide) h
  · intro hc; replace h := h.2 hc
    refine r_iload_n (pc := 4) C d_M_objectAt_4 rfl 1 rfl ?_
    refine r_bipush (pc := 5) C d_M_objectAt_5 (v := 127) (by decide) ?_
    refine r_icmp_gt (tgt := 19) (pc := 7) C d_M_objectAt_7 (by decide) ?_ ?_
    · intro hc; replace h := h.1 hc
      refine r_iconst (pc := 19) C d_M_objectAt_19 (v := (-1)) (by decide) ?_
      exact r_iret (pc := 20) C Q d_M_objectAt_20 (by decide) (by decide) h
    · intro hc; replace h := h.2 hc
      refine r_aload_n (pc := 10) C d_M_objectAt_10 rfl 0 rfl ?_
      refine r_getR (pc := 11) (ci := 6) C rfl 1 (by decide) (k_651 C.w) rfl (lay_O hg rfl) d_M_objectAt_11 ?_
      refine r_iload_n (pc := 14) C d_M_objectAt_14 rfl 1 rfl ?_
      obtain ⟨b1, h⟩ := h
      refine r_iald (pc := 15) C (lay_A hg rfl) b1 d_M_objectAt_15 ?_
      refine r_if_ge (tgt := 21) (pc := 16) C d_M_objectAt_16 (by decide) ?_ ?_
      · intro hc; replace h := h.1 hc
        refine r_aload_n (pc := 21) C d_M_objectAt_21 rfl 0 rfl ?_
        refine r_getR (pc := 22) (ci := 6) C rfl 3 (by decide) (k_653 C.w) rfl (lay_O hg rfl) d_M_objectAt_22 ?_
        refine r_aload_n (pc := 25) C d_M_objectAt_25 rfl 0 rfl ?_
        refine r_getR (pc := 26) (ci := 6) C rfl 1 (by decide) (k_651 C.w) rfl (lay_O hg rfl) d_M_objectAt_26 ?_
        refine r_iload_n (pc := 29) C d_M_objectAt_29 rfl 1 rfl ?_
        refine r_iald (pc := 30) C (lay_A hg rfl) b1 d_M_objectAt_30 ?_
        obtain ⟨b2, h⟩ := h
        refine r_iald (pc := 31) C (lay_A hg rfl) b2 d_M_objectAt_31 ?_
        refine r_iload_n (pc := 32) C d_M_objectAt_32 rfl 1 rfl ?_
        refine r_icmp_ne (tgt := 45) (pc := 33) C d_M_objectAt_33 (by decide) ?_ ?_
        · intro hc; replace h := h.2 hc
          refine r_iconst (pc := 45) C d_M_objectAt_45 (v := (-1)) (by decide) ?_
          exact r_iret (pc := 46) C Q d_M_objectAt_46 (by decide) (by decide) h
        · intro hc; replace h := h.1 hc
          refine r_aload_n (pc := 36) C d_M_objectAt_36 rfl 0 rfl ?_
          refine r_getR (pc := 37) (ci := 6) C rfl 1 (by decide) (k_651 C.w) rfl (lay_O hg rfl) d_M_objectAt_37 ?_
          refine r_iload_n (pc := 40) C d_M_objectAt_40 rfl 1 rfl ?_
          refine r_iald (pc := 41) C (lay_A hg rfl) b1 d_M_objectAt_41 ?_
          refine r_goto (tgt := 46) (pc := 42) C d_M_objectAt_42 (by decide) ?_
          exact r_iret (pc := 46) C Q d_M_objectAt_46 (by decide) (by decide) h
      · intro hc; replace h := h.2 hc
        refine r_iconst (pc := 19) C d_M_objectAt_19 (v := (-1)) (by decide) ?_
        exact r_iret (pc := 20) C Q d_M_objectAt_20 (by decide) (by decide) h
theorem c_M_addressOf {l : Launch} (hl : l.stackTraces = false) {G : Gl} (hg : gf G = true) {a1 : Int32} {post : Int32 → Mem → Prop} {μ : Mem} (h : wM_addressOf a1 post μ) : Ct l G i_M_addressOf [.inr (.inl (some 17)), .inl a1] μ (poI post) noX := by
  refine ct_of hl (by decide) (Nat.le_of_ble_eq_true rfl) ?_
  intro K hKl C Q hE
  clear hl hKl
  replace C : Cx K G prog_8_method_12_code "LineCollectorModel" 2 { frames := 0, cells := 0, slots := 0, locals := 0 } := C
  replace Q : Cq K G { frames := 0, cells := 0, slots := 0, locals := 0 } (some .int) (poI post) noX := Q
  show Rn K G 2 0 [(0, .inr (.inl (some 17))), (1, .inl a1)] [] μ 0 0
  unfold wM_addressOf at h
  refine r_iload_n (pc := 0) C d_M_addressOf_0 rfl 1 rfl ?_
  refine r_if_ge (tgt := 8) (pc := 1) C d_M_addressOf_1 (by decide) ?_ ?_
  · intro hc; replace h := h.1 hc
    refine r_aload_n (pc := 8) C d_M_addressOf_8 rfl 0 rfl ?_
    refine r_getR (pc := 9) (ci := 6) C rfl 3 (by decide) (k_653 C.w) rfl (lay_O hg rfl) d_M_addressOf_9 ?_
    refine r_iload_n (pc := 12) C d_M_addressOf_12 rfl 1 rfl ?_
    obtain ⟨b1, h⟩ := h
    refine r_iald (pc := 13) C (lay_A hg rfl) b1 d_M_addressOf_13 ?_
    exact r_iret (pc := 14) C Q d_M_addressOf_14 (by decide) (by decide) h
  · intro hc; replace h := h.2 hc
    refine r_iconst (pc := 4) C d_M_addressOf_4 (v := (-1)) (by decide) ?_
    refine r_goto (tgt := 14) (pc := 5) C d_M_addressOf_5 (by decide) ?_
    exact r_iret (pc := 14) C Q d_M_addressOf_14 (by decide) (by decide) h
theorem c_M_lay {l : Launch} (hl : l.stackTraces = false) {G : Gl} (hg : gf G = true) {a1 : Int32} {a2 : Int32} {post : Mem → Prop} {μ : Mem} (h : wM_lay a1 a2 post μ) : Ct l G i_M_lay [.inr (.inl (some 17)), .inl a1, .inl a2] μ (poV post) noX := by
  refine ct_of hl (by decide) (Nat.le_of_ble_eq_true rfl) ?_
  intro K hKl C Q hE
  clear hl hKl
  replace C : Cx K G prog_8_method_13_code "LineCollectorModel" 4 { frames := 0, cells := 0, slots := 0, locals := 0 } := C
  replace Q : Cq K G { frames := 0, cells := 0, slots := 0, locals := 0 } (none) (poV post) noX := Q
  show Rn K G 4 0 [(0, .inr (.inl (some 17))), (1, .inl a1), (2, .inl a2)] [] μ 0 0
  have L_9 : ∀ (l1 : Int32) (l2 : Int32) (k : Int32 → Mem → Prop), (∀ (v3 : Int32) (μ : Mem), k v3 μ → Rn K G 4 34 [] [] μ 0 0) → ∀ (n : Nat) (l3 : Int32) (μ : Mem), wM_lay_9 l1 l2 k n l3 μ → Rn K G 4 9 [(0, .inr (.inl (some 17))), (1, .inl l1), (2, .inl l2), (3, .inl l3)] [] μ 0 0 := by
    intro l1 l2 k hk n
    induction n with
    | zero => intro l3 μ h; exact h.elim
    | succ n ih =>
      intro l3 μ h
      unfold wM_lay_9 at h
      refine r_iload_n (pc := 9) C d_M_lay_9 rfl 3 rfl ?_
      refine r_aload_n (pc := 10) C d_M_lay_10 rfl 0 rfl ?_
      refine r_getR (pc := 11) (ci := 6) C rfl 4 (by decide) (k_654 C.w) rfl (lay_O hg rfl) d_M_lay_11 ?_
      refine r_iload_n (pc := 14) C d_M_lay_14 rfl 1 rfl ?_
      obtain ⟨b3, h⟩ := h
      refine r_iald (pc := 15) C (lay_A hg rfl) b3 d_M_lay_15 ?_
      refine r_icmp_ge (tgt := 34) (pc := 16) C d_M_lay_16 (by decide) ?_ ?_
      · intro hc; replace h := h.1 hc
        refine r_sub [] rfl ?_
        exact hk l3 μ h
      · intro hc; replace h := h.2 hc
        refine r_aload_n (pc := 19) C d_M_lay_19 rfl 0 rfl ?_
        refine r_getR (pc := 20) (ci := 6) C rfl 1 (by decide) (k_651 C.w) rfl (lay_O hg rfl) d_M_lay_20 ?_
        refine r_iload_n (pc := 23) C d_M_lay_23 rfl 2 rfl ?_
        refine r_iload_n (pc := 24) C d_M_lay_24 rfl 3 rfl ?_
        refine r_iadd (pc := 25) C d_M_lay_25 ?_
        refine r_iload_n (pc := 26) C d_M_lay_26 rfl 1 rfl ?_
        obtain ⟨b4, h⟩ := h
        refine r_iast (pc := 27) C (lay_A hg rfl) b4 d_M_lay_27 ?_
        intro μ5 eμ5; replace h := h μ5 eμ5
        refine r_iinc (pc := 28) (v := 1) (lv' := [(0, .inr (.inl (some 17))), (1, .inl l1), (2, .inl l2)]) C d_M_lay_28 3 rfl (by decide) (by decide) rfl ?_
        refine r_goto (tgt := 9) (pc := 31) C d_M_lay_31 (by decide) ?_
        refine r_sub [1, 2, 3, 0] rfl ?_
        exact ih (l3 + 1) μ5 h
  unfold wM_lay at h
  refine r_aload_n (pc := 0) C d_M_lay_0 rfl 0 rfl ?_
  refine r_getR (pc := 1) (ci := 6) C rfl 3 (by decide) (k_653 C.w) rfl (lay_O hg rfl) d_M_lay_1 ?_
  refine r_iload_n (pc := 4) C d_M_lay_4 rfl 1 rfl ?_
  refine r_iload_n (pc := 5) C d_M_lay_5 rfl 2 rfl ?_
  obtain ⟨b1, h⟩ := h
  refine r_iast (pc := 6) C (lay_A hg rfl) b1 d_M_lay_6 ?_
  intro μ2 eμ2; replace h := h μ2 eμ2
  refine r_iconst (pc := 7) C d_M_lay_7 (v := 0) (by decide) ?_
  refine r_istore_n (pc := 8) (lv' := [(0, .inr (.inl (some 17))), (1, .inl a1), (2, .inl a2)]) C d_M_lay_8 rfl (by decide) rfl ?_
  obtain ⟨n8, h⟩ := h
  refine r_sub [1, 2, 3, 0] rfl ?_
  refine L_9 a1 a2 _ ?_ n8 0 μ2 h
  intro v7 μ6 h
  exact r_vret (pc := 34) C Q d_M_lay_34 (by decide) (by decide) h
theorem c_M_lift {l : Launch} (hl : l.stackTraces = false) {G : Gl} (hg : gf G = true) {a1 : Int32} {a2 : Int32} {post : Mem → Prop} {μ : Mem} (h : wM_lift a1 a2 post μ) : Ct l G i_M_lift [.inr (.inl (some 17)), .inl a1, .inl a2] μ (poV post) noX := by
  refine ct_of hl (by decide) (Nat.le_of_ble_eq_true rfl) ?_
  intro K hKl C Q hE
  clear hl hKl
  replace C : Cx K G prog_8_method_14_code "LineCollectorModel" 4 { frames := 0, cells := 0, slots := 0, locals := 0 } := C
  replace Q : Cq K G { frames := 0, cells := 0, slots := 0, locals := 0 } (none) (poV post) noX := Q
  show Rn K G 4 0 [(0, .inr (.inl (some 17))), (1, .inl a1), (2, .inl a2)] [] μ 0 0
  have L_7 : ∀ (l1 : Int32) (l2 : Int32) (k : Int32 → Mem → Prop), (∀ (v3 : Int32) (μ : Mem), k v3 μ → Rn K G 4 65 [] [] μ 0 0) → ∀ (n : Nat) (l3 : Int32) (μ : Mem), wM_lift_7 l1 l2 k n l3 μ → Rn K G 4 7 [(0, .inr (.inl (some 17))), (1, .inl l1), (2, .inl l2), (3, .inl l3)] [] μ 0 0 := by
    intro l1 l2 k hk n
    induction n with
    | zero => intro l3 μ h; exact h.elim
    | succ n ih =>
      intro l3 μ h
      unfold wM_lift_7 at h
      refine r_iload_n (pc := 7) C d_M_lift_7 rfl 3 rfl ?_
      refine r_aload_n (pc := 8) C d_M_lift_8 rfl 0 rfl ?_
      refine r_getR (pc := 9) (ci := 6) C rfl 3 (by decide) (k_653 C.w) rfl (lay_O hg rfl) d_M_lift_9 ?_
      refine r_iload_n (pc := 12) C d_M_lift_12 rfl 1 rfl ?_
      obtain ⟨b2, h⟩ := h
      refine r_iald (pc := 13) C (lay_A hg rfl) b2 d_M_lift_13 ?_
      refine r_aload_n (pc := 14) C d_M_lift_14 rfl 0 rfl ?_
      refine r_getR (pc := 15) (ci := 6) C rfl 4 (by decide) (k_654 C.w) rfl (lay_O hg rfl) d_M_lift_15 ?_
      refine r_iload_n (pc := 18) C d_M_lift_18 rfl 1 rfl ?_
      refine r_iald (pc := 19) C (lay_A hg rfl) b2 d_M_lift_19 ?_
      refine r_iadd (pc := 20) C d_M_lift_20 ?_
      refine r_icmp_ge (tgt := 65) (pc := 21) C d_M_lift_21 (by decide) ?_ ?_
      · intro hc; replace h := h.1 hc
        refine r_sub [] rfl ?_
        exact hk l3 μ h
      · intro hc; replace h := h.2 hc
        refine r_aload_n (pc := 24) C d_M_lift_24 rfl 0 rfl ?_
        refine r_getR (pc := 25) (ci := 6) C rfl 1 (by decide) (k_651 C.w) rfl (lay_O hg rfl) d_M_lift_25 ?_
        refine r_iload_n (pc := 28) C d_M_lift_28 rfl 3 rfl ?_
        refine r_iconst (pc := 29) C d_M_lift_29 (v := (-1)) (by decide) ?_
        obtain ⟨b3, h⟩ := h
        refine r_iast (pc := 30) C (lay_A hg rfl) b3 d_M_lift_30 ?_
        intro μ4 eμ4; replace h := h μ4 eμ4
        refine r_aload_n (pc := 31) C d_M_lift_31 rfl 0 rfl ?_
        refine r_getR (pc := 32) (ci := 6) C rfl 18 (by decide) (k_668 C.w) rfl (lay_O hg rfl) d_M_lift_32 ?_
        refine r_iload_n (pc := 35) C d_M_lift_35 rfl 3 rfl ?_
        refine r_iconst (pc := 36) C d_M_lift_36 (v := 4) (by decide) ?_
        refine r_idiv (pc := 37) C d_M_lift_37 (by decide) ?_
        refine r_aload_n (pc := 38) C d_M_lift_38 rfl 0 rfl ?_
        refine r_getR (pc := 39) (ci := 6) C rfl 18 (by decide) (k_668 C.w) rfl (lay_O hg rfl) d_M_lift_39 ?_
        refine r_iload_n (pc := 42) C d_M_lift_42 rfl 3 rfl ?_
        refine r_iconst (pc := 43) C d_M_lift_43 (v := 4) (by decide) ?_
        refine r_idiv (pc := 44) C d_M_lift_44 (by decide) ?_
        obtain ⟨b5, h⟩ := h
        refine r_zald (pc := 45) C (lay_A hg rfl) b5 d_M_lift_45 ?_
        refine r_if_ne (tgt := 53) (pc := 46) C d_M_lift_46 (by decide) ?_ ?_
        · intro hc; replace h := h.2 hc
          refine r_iconst (pc := 53) C d_M_lift_53 (v := 1) (by decide) ?_
          refine r_goto (tgt := 58) (pc := 54) C d_M_lift_54 (by decide) ?_
          refine r_zast (pc := 58) C (lay_A hg rfl) b5 d_M_lift_58 (Or.inr rfl) ?_
          intro μ6 eμ6; replace h := h μ6 eμ6
          refine r_iinc (pc := 59) (v := 1) (lv' := [(0, .inr (.inl (some 17))), (1, .inl l1), (2, .inl l2)]) C d_M_lift_59 3 rfl (by decide) (by decide) rfl ?_
          refine r_goto (tgt := 7) (pc := 62) C d_M_lift_62 (by decide) ?_
          refine r_sub [1, 2, 3, 0] rfl ?_
          exact ih (l3 + 1) μ6 h
        · intro hc; replace h := h.1 hc
          refine r_iload_n (pc := 49) C d_M_lift_49 rfl 2 rfl ?_
          refine r_if_eq (tgt := 57) (pc := 50) C d_M_lift_50 (by decide) ?_ ?_
          · intro hc; replace h := h.1 hc
            refine r_iconst (pc := 57) C d_M_lift_57 (v := 0) (by decide) ?_
            refine r_zast (pc := 58) C (lay_A hg rfl) b5 d_M_lift_58 (Or.inl rfl) ?_
            intro μ7 eμ7; replace h := h μ7 eμ7
            refine r_iinc (pc := 59) (v := 1) (lv' := [(0, .inr (.inl (some 17))), (1, .inl l1), (2, .inl l2)]) C d_M_lift_59 3 rfl (by decide) (by decide) rfl ?_
            refine r_goto (tgt := 7) (pc := 62) C d_M_lift_62 (by decide) ?_
            refine r_sub [1, 2, 3, 0] rfl ?_
            exact ih (l3 + 1) μ7 h
          · intro hc; replace h := h.2 hc
            refine r_iconst (pc := 53) C d_M_lift_53 (v := 1) (by decide) ?_
            refine r_goto (tgt := 58) (pc := 54) C d_M_lift_54 (by decide) ?_
            refine r_zast (pc := 58) C (lay_A hg rfl) b5 d_M_lift_58 (Or.inr rfl) ?_
            intro μ8 eμ8; replace h := h μ8 eμ8
            refine r_iinc (pc := 59) (v := 1) (lv' := [(0, .inr (.inl (some 17))), (1, .inl l1), (2, .inl l2)]) C d_M_lift_59 3 rfl (by decide) (by decide) rfl ?_
            refine r_goto (tgt := 7) (pc := 62) C d_M_lift_62 (by decide) ?_
            refine r_sub [1, 2, 3, 0] rfl ?_
            exact ih (l3 + 1) μ8 h
  unfold wM_lift at h
  refine r_aload_n (pc := 0) C d_M_lift_0 rfl 0 rfl ?_
  refine r_getR (pc := 1) (ci := 6) C rfl 3 (by decide) (k_653 C.w) rfl (lay_O hg rfl) d_M_lift_1 ?_
  refine r_iload_n (pc := 4) C d_M_lift_4 rfl 1 rfl ?_
  obtain ⟨b1, h⟩ := h
  refine r_iald (pc := 5) C (lay_A hg rfl) b1 d_M_lift_5 ?_
  refine r_istore_n (pc := 6) (lv' := [(0, .inr (.inl (some 17))), (1, .inl a1), (2, .inl a2)]) C d_M_lift_6 rfl (by decide) rfl ?_
  obtain ⟨n11, h⟩ := h
  refine r_sub [1, 2, 3, 0] rfl ?_
  refine L_7 a1 a2 _ ?_ n11 (mI μ 20 (a1).toNatClampNeg) μ h
  intro v10 μ9 h
  exact r_vret (pc := 65) C Q d_M_lift_65 (by decide) (by decide) h
theorem c_M_shift {l : Launch} (hl : l.stackTraces = false) {G : Gl} (hg : gf G = true) {a1 : Int32} {post : Mem → Prop} {μ : Mem} (h : wM_shift a1 post μ) : Ct l G i_M_shift [.inr (.inl (some 17)), .inl a1] μ (poV post) noX := by
  refine ct_of hl (by decide) (Nat.le_of_ble_eq_true rfl) ?_
  intro K hKl C Q hE
  clear hl hKl
  replace C : Cx K G prog_8_method_15_code "LineCollectorModel" 3 { frames := 5, cells := 0, slots := 0, locals := 110 } := C
  replace Q : Cq K G { frames := 5, cells := 0, slots := 0, locals := 110 } (none) (poV post) noX := Q
  show Rn K G 3 0 [(0, .inr (.inl (some 17))), (1, .inl a1)] [] μ 0 0
  unfold wM_shift at h
  refine r_aload_n (pc := 0) C d_M_shift_0 rfl 0 rfl ?_
  refine r_aload_n (pc := 1) C d_M_shift_1 rfl 0 rfl ?_
  refine r_getR (pc := 2) (ci := 6) C rfl 4 (by decide) (k_654 C.w) rfl (lay_O hg rfl) d_M_shift_2 ?_
  refine r_iload_n (pc := 5) C d_M_shift_5 rfl 1 rfl ?_
  obtain ⟨b1, h⟩ := h
  refine r_iald (pc := 6) C (lay_A hg rfl) b1 d_M_shift_6 ?_
  refine r_cVi (pc := 7) (a' := 0) (b' := 0) (As := [.inl (mI μ 21 (a1).toNatClampNeg)]) (ci := 6) C (c_M_place C.s hg h) o_M_place rfl (lay_O hg rfl) (k_755 C.w) rfl ⟨by decide, by decide, by decide, by decide⟩ rfl rfl (Nat.le_of_ble_eq_true rfl) d_M_shift_7 rfl ?_
  intro r3 μ2 h
  refine r_istore_n (pc := 10) (lv' := [(0, .inr (.inl (some 17))), (1, .inl a1)]) C d_M_shift_10 rfl (by decide) rfl ?_
  refine r_iload_n (pc := 11) C d_M_shift_11 rfl 0 rfl ?_
  refine r_if_lt (tgt := 37) (pc := 12) C d_M_shift_12 (by decide) ?_ ?_
  · intro hc; replace h := h.1 hc
    exact r_vret (pc := 37) C Q d_M_shift_37 (by decide) (by decide) h
  · intro hc; replace h := h.2 hc
    refine r_aload_n (pc := 15) C d_M_shift_15 rfl 1 rfl ?_
    refine r_iload_n (pc := 16) C d_M_shift_16 rfl 2 rfl ?_
    refine r_iconst (pc := 17) C d_M_shift_17 (v := 1) (by decide) ?_
    refine r_cVv (pc := 18) (a' := 0) (b' := 0) (As := [.inl a1, .inl 1]) (ci := 6) C (c_M_lift C.s hg h) o_M_lift rfl (lay_O hg rfl) (k_815 C.w) rfl ⟨by decide, by decide, by decide, by decide⟩ rfl rfl (Nat.le_of_ble_eq_true rfl) d_M_shift_18 rfl ?_
    intro μ4 h
    refine r_aload_n (pc := 21) C d_M_shift_21 rfl 1 rfl ?_
    refine r_iload_n (pc := 22) C d_M_shift_22 rfl 2 rfl ?_
    refine r_iload_n (pc := 23) C d_M_shift_23 rfl 0 rfl ?_
    refine r_cVv (pc := 24) (a' := 0) (b' := 0) (As := [.inl a1, .inl r3]) (ci := 6) C (c_M_lay C.s hg h) o_M_lay rfl (lay_O hg rfl) (k_839 C.w) rfl ⟨by decide, by decide, by decide, by decide⟩ rfl rfl (Nat.le_of_ble_eq_true rfl) d_M_shift_24 rfl ?_
    intro μ5 h
    refine r_aload_n (pc := 27) C d_M_shift_27 rfl 1 rfl ?_
    refine r_dupR (pc := 28) C d_M_shift_28 ?_
    refine r_getI (pc := 29) (ci := 6) C rfl 29 (by decide) (k_679 C.w) rfl (lay_O hg rfl) d_M_shift_29 ?_
    refine r_iconst (pc := 32) C d_M_shift_32 (v := 1) (by decide) ?_
    refine r_iadd (pc := 33) C d_M_shift_33 ?_
    refine r_putI (pc := 34) (ci := 6) C rfl 29 (by decide) (k_679 C.w) rfl rfl p_I (lay_O hg rfl) d_M_shift_34 ?_
    intro μ6 eμ6; replace h := h μ6 eμ6
    exact r_vret (pc := 37) C Q d_M_shift_37 (by decide) (by decide) h
theorem c_M_lose {l : Launch} (hl : l.stackTraces = false) {G : Gl} (hg : gf G = true) {a1 : Int32} {post : Mem → Prop} {μ : Mem} (h : wM_lose a1 post μ) : Ct l G i_M_lose [.inr (.inl (some 17)), .inl a1] μ (poV post) noX := by
  refine ct_of hl (by decide) (Nat.le_of_ble_eq_true rfl) ?_
  intro K hKl C Q hE
  clear hl hKl
  replace C : Cx K G prog_8_method_16_code "LineCollectorModel" 2 { frames := 1, cells := 0, slots := 0, locals := 23 } := C
  replace Q : Cq K G { frames := 1, cells := 0, slots := 0, locals := 23 } (none) (poV post) noX := Q
  show Rn K G 2 0 [(0, .inr (.inl (some 17))), (1, .inl a1)] [] μ 0 0
  unfold wM_lose at h
  refine r_aload_n (pc := 0) C d_M_lose_0 rfl 0 rfl ?_
  refine r_getR (pc := 1) (ci := 6) C rfl 2 (by decide) (k_652 C.w) rfl (lay_O hg rfl) d_M_lose_1 ?_
  refine r_iload_n (pc := 4) C d_M_lose_4 rfl 1 rfl ?_
  refine r_iconst (pc := 5) C d_M_lose_5 (v := 0) (by decide) ?_
  obtain ⟨b1, h⟩ := h
  refine r_iast (pc := 6) C (lay_A hg rfl) b1 d_M_lose_6 ?_
  intro μ2 eμ2; replace h := h μ2 eμ2
  refine r_aload_n (pc := 7) C d_M_lose_7 rfl 0 rfl ?_
  refine r_iload_n (pc := 8) C d_M_lose_8 rfl 1 rfl ?_
  refine r_iconst (pc := 9) C d_M_lose_9 (v := 0) (by decide) ?_
  refine r_cVv (pc := 10) (a' := 0) (b' := 0) (As := [.inl a1, .inl 0]) (ci := 6) C (c_M_lift C.s hg h) o_M_lift rfl (lay_O hg rfl) (k_815 C.w) rfl ⟨by decide, by decide, by decide, by decide⟩ rfl rfl (Nat.le_of_ble_eq_true rfl) d_M_lose_10 rfl ?_
  intro μ3 h
  exact r_vret (pc := 13) C Q d_M_lose_13 (by decide) (by decide) h
theorem c_M_make {l : Launch} (hl : l.stackTraces = false) {G : Gl} (hg : gf G = true) {a1 : Int32} {a2 : Int32} {post : Int32 → Mem → Prop} {μ : Mem} (h : wM_make a1 a2 post μ) : Ct l G i_M_make [.inr (.inl (some 17)), .inl a1, .inl a2] μ (poI post) noX := by
  refine ct_of hl (by decide) (Nat.le_of_ble_eq_true rfl) ?_
  intro K hKl C Q hE
  clear hl hKl
  replace C : Cx K G prog_8_method_17_code "LineCollectorModel" 5 { frames := 0, cells := 0, slots := 0, locals := 0 } := C
  replace Q : Cq K G { frames := 0, cells := 0, slots := 0, locals := 0 } (some .int) (poI post) noX := Q
  show Rn K G 5 0 [(0, .inr (.inl (some 17))), (1, .inl a1), (2, .inl a2)] [] μ 0 0
  have L_0 : ∀ (l1 : Int32) (l2 : Int32) (k : Mem → Prop), (∀ (μ : Mem), k μ → Rn K G 5 29 [(0, .inr (.inl (some 17))), (1, .inl l1), (2, .inl l2)] [] μ 0 0) → ∀ (n : Nat) (μ : Mem), wM_make_0 k n μ → Rn K G 5 0 [(0, .inr (.inl (some 17))), (1, .inl l1), (2, .inl l2)] [] μ 0 0 := by
    intro l1 l2 k hk n
    induction n with
    | zero => intro μ h; exact h.elim
    | succ n ih =>
      intro μ h
      unfold wM_make_0 at h
      refine r_aload_n (pc := 0) C d_M_make_0 rfl 0 rfl ?_
      refine r_getR (pc := 1) (ci := 6) C rfl 2 (by decide) (k_652 C.w) rfl (lay_O hg rfl) d_M_make_1 ?_
      refine r_aload_n (pc := 4) C d_M_make_4 rfl 0 rfl ?_
      refine r_getI (pc := 5) (ci := 6) C rfl 10 (by decide) (k_660 C.w) rfl (lay_O hg rfl) d_M_make_5 ?_
      obtain ⟨b1, h⟩ := h
      refine r_iald (pc := 8) C (lay_A hg rfl) b1 d_M_make_8 ?_
      refine r_if_eq (tgt := 29) (pc := 9) C d_M_make_9 (by decide) ?_ ?_
      · intro hc; replace h := h.1 hc
        exact hk μ h
      · intro hc; replace h := h.2 hc
        refine r_aload_n (pc := 12) C d_M_make_12 rfl 0 rfl ?_
        refine r_aload_n (pc := 13) C d_M_make_13 rfl 0 rfl ?_
        refine r_getI (pc := 14) (ci := 6) C rfl 10 (by decide) (k_660 C.w) rfl (lay_O hg rfl) d_M_make_14 ?_
        refine r_iconst (pc := 17) C d_M_make_17 (v := 1) (by decide) ?_
        refine r_iadd (pc := 18) C d_M_make_18 ?_
        refine r_sipush (pc := 19) C d_M_make_19 (v := 256) (by decide) ?_
        refine r_irem (pc := 22) C d_M_make_22 (by decide) ?_
        refine r_putI (pc := 23) (ci := 6) C rfl 10 (by decide) (k_660 C.w) rfl rfl p_I (lay_O hg rfl) d_M_make_23 ?_
        intro μ2 eμ2; replace h := h μ2 eμ2
        refine r_goto (tgt := 0) (pc := 26) C d_M_make_26 (by decide) ?_
        exact ih μ2 h
  have L_86 : ∀ (l3 : Int32) (k : Int32 → Mem → Prop), (∀ (v4 : Int32) (μ : Mem), k v4 μ → Rn K G 5 125 [(3, .inl l3)] [] μ 0 0) → ∀ (n : Nat) (l4 : Int32) (μ : Mem), wM_make_86 l3 k n l4 μ → Rn K G 5 86 [(0, .inr (.inl (some 17))), (3, .inl l3), (4, .inl l4)] [] μ 0 0 := by
    intro l3 k hk n
    induction n with
    | zero => intro l4 μ h; exact h.elim
    | succ n ih =>
      intro l4 μ h
      unfold wM_make_86 at h
      refine r_iload (pc := 86) C d_M_make_86 2 rfl ?_
      refine r_bipush (pc := 88) C d_M_make_88 (v := 12) (by decide) ?_
      refine r_icmp_ge (tgt := 125) (pc := 90) C d_M_make_90 (by decide) ?_ ?_
      · intro hc; replace h := h.1 hc
        refine r_sub [1] rfl ?_
        exact hk l4 μ h
      · intro hc; replace h := h.2 hc
        refine r_aload_n (pc := 93) C d_M_make_93 rfl 0 rfl ?_
        refine r_getR (pc := 94) (ci := 6) C rfl 8 (by decide) (k_658 C.w) rfl (lay_O hg rfl) d_M_make_94 ?_
        refine r_bipush (pc := 97) C d_M_make_97 (v := 12) (by decide) ?_
        refine r_iload_n (pc := 99) C d_M_make_99 rfl 1 rfl ?_
        refine r_imul (pc := 100) C d_M_make_100 ?_
        refine r_iload (pc := 101) C d_M_make_101 2 rfl ?_
        refine r_iadd (pc := 103) C d_M_make_103 ?_
        refine r_iconst (pc := 104) C d_M_make_104 (v := (-1)) (by decide) ?_
        obtain ⟨b11, h⟩ := h
        refine r_iast (pc := 105) C (lay_A hg rfl) b11 d_M_make_105 ?_
        intro μ12 eμ12; replace h := h μ12 eμ12
        refine r_aload_n (pc := 106) C d_M_make_106 rfl 0 rfl ?_
        refine r_getR (pc := 107) (ci := 6) C rfl 9 (by decide) (k_659 C.w) rfl (lay_O hg rfl) d_M_make_107 ?_
        refine r_bipush (pc := 110) C d_M_make_110 (v := 12) (by decide) ?_
        refine r_iload_n (pc := 112) C d_M_make_112 rfl 1 rfl ?_
        refine r_imul (pc := 113) C d_M_make_113 ?_
        refine r_iload (pc := 114) C d_M_make_114 2 rfl ?_
        refine r_iadd (pc := 116) C d_M_make_116 ?_
        refine r_iconst (pc := 117) C d_M_make_117 (v := 0) (by decide) ?_
        refine r_zast (pc := 118) C (lay_A hg rfl) b11 d_M_make_118 (Or.inl rfl) ?_
        intro μ13 eμ13; replace h := h μ13 eμ13
        refine r_iinc (pc := 119) (v := 1) (lv' := [(0, .inr (.inl (some 17))), (3, .inl l3)]) C d_M_make_119 2 rfl (by decide) (by decide) rfl ?_
        refine r_goto (tgt := 86) (pc := 122) C d_M_make_122 (by decide) ?_
        refine r_sub [1, 2, 0] rfl ?_
        exact ih (l4 + 1) μ13 h
  unfold wM_make at h
  obtain ⟨n17, h⟩ := h
  refine L_0 a1 a2 _ ?_ n17 μ h
  intro μ3 h
  refine r_aload_n (pc := 29) C d_M_make_29 rfl 0 rfl ?_
  refine r_getI (pc := 30) (ci := 6) C rfl 10 (by decide) (k_660 C.w) rfl (lay_O hg rfl) d_M_make_30 ?_
  refine r_istore_n (pc := 33) (lv' := [(0, .inr (.inl (some 17))), (1, .inl a1), (2, .inl a2)]) C d_M_make_33 rfl (by decide) rfl ?_
  refine r_aload_n (pc := 34) C d_M_make_34 rfl 1 rfl ?_
  refine r_aload_n (pc := 35) C d_M_make_35 rfl 1 rfl ?_
  refine r_getI (pc := 36) (ci := 6) C rfl 10 (by decide) (k_660 C.w) rfl (lay_O hg rfl) d_M_make_36 ?_
  refine r_iconst (pc := 39) C d_M_make_39 (v := 1) (by decide) ?_
  refine r_iadd (pc := 40) C d_M_make_40 ?_
  refine r_sipush (pc := 41) C d_M_make_41 (v := 256) (by decide) ?_
  refine r_irem (pc := 44) C d_M_make_44 (by decide) ?_
  refine r_putI (pc := 45) (ci := 6) C rfl 10 (by decide) (k_660 C.w) rfl rfl p_I (lay_O hg rfl) d_M_make_45 ?_
  intro μ4 eμ4; replace h := h μ4 eμ4
  refine r_aload_n (pc := 48) C d_M_make_48 rfl 1 rfl ?_
  refine r_getR (pc := 49) (ci := 6) C rfl 2 (by decide) (k_652 C.w) rfl (lay_O hg rfl) d_M_make_49 ?_
  refine r_iload_n (pc := 52) C d_M_make_52 rfl 0 rfl ?_
  refine r_iconst (pc := 53) C d_M_make_53 (v := 1) (by decide) ?_
  obtain ⟨b5, h⟩ := h
  refine r_iast (pc := 54) C (lay_A hg rfl) b5 d_M_make_54 ?_
  intro μ6 eμ6; replace h := h μ6 eμ6
  refine r_aload_n (pc := 55) C d_M_make_55 rfl 1 rfl ?_
  refine r_getR (pc := 56) (ci := 6) C rfl 4 (by decide) (k_654 C.w) rfl (lay_O hg rfl) d_M_make_56 ?_
  refine r_iload_n (pc := 59) C d_M_make_59 rfl 0 rfl ?_
  refine r_iload_n (pc := 60) C d_M_make_60 rfl 2 rfl ?_
  refine r_iast (pc := 61) C (lay_A hg rfl) b5 d_M_make_61 ?_
  intro μ7 eμ7; replace h := h μ7 eμ7
  refine r_aload_n (pc := 62) C d_M_make_62 rfl 1 rfl ?_
  refine r_getR (pc := 63) (ci := 6) C rfl 5 (by decide) (k_655 C.w) rfl (lay_O hg rfl) d_M_make_63 ?_
  refine r_iload_n (pc := 66) C d_M_make_66 rfl 0 rfl ?_
  refine r_iload_n (pc := 67) C d_M_make_67 rfl 3 rfl ?_
  refine r_iast (pc := 68) C (lay_A hg rfl) b5 d_M_make_68 ?_
  intro μ8 eμ8; replace h := h μ8 eμ8
  refine r_aload_n (pc := 69) C d_M_make_69 rfl 1 rfl ?_
  refine r_getR (pc := 70) (ci := 6) C rfl 6 (by decide) (k_656 C.w) rfl (lay_O hg rfl) d_M_make_70 ?_
  refine r_iload_n (pc := 73) C d_M_make_73 rfl 0 rfl ?_
  refine r_iconst (pc := 74) C d_M_make_74 (v := 0) (by decide) ?_
  refine r_iast (pc := 75) C (lay_A hg rfl) b5 d_M_make_75 ?_
  intro μ9 eμ9; replace h := h μ9 eμ9
  refine r_aload_n (pc := 76) C d_M_make_76 rfl 1 rfl ?_
  refine r_getR (pc := 77) (ci := 6) C rfl 7 (by decide) (k_657 C.w) rfl (lay_O hg rfl) d_M_make_77 ?_
  refine r_iload_n (pc := 80) C d_M_make_80 rfl 0 rfl ?_
  refine r_iconst (pc := 81) C d_M_make_81 (v := 0) (by decide) ?_
  refine r_iast (pc := 82) C (lay_A hg rfl) b5 d_M_make_82 ?_
  intro μ10 eμ10; replace h := h μ10 eμ10
  refine r_iconst (pc := 83) C d_M_make_83 (v := 0) (by decide) ?_
  refine r_istore (pc := 84) (lv' := [(3, .inl (mI μ3 17 10)), (0, .inr (.inl (some 17))), (1, .inl a1), (2, .inl a2)]) C d_M_make_84 (by decide) rfl ?_
  obtain ⟨n16, h⟩ := h
  refine r_sub [2, 1, 0] rfl ?_
  refine L_86 (mI μ3 17 10) _ ?_ n16 0 μ10 h
  intro v15 μ14 h
  refine r_iload_n (pc := 125) C d_M_make_125 rfl 0 rfl ?_
  exact r_iret (pc := 126) C Q d_M_make_126 (by decide) (by decide) h
