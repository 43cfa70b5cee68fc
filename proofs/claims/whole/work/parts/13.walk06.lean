/-! The machine meets the predicates (written by a program) -/
theorem c_M_countSlots {l : Launch} (hl : l.stackTraces = false) {G : Gl} {post : Int32 → Mem → Prop} {μ : Mem} (h : wM_countSlots post μ) : Ct l G i_M_countSlots [.inr (.inl (some 17))] μ (poI post) noX := by
  refine ct_of hl (by decide) (Nat.le_of_ble_eq_true rfl) ?_
  intro K hKl C hE
  clear hl hKl
  replace C : Cx K G prog_8_method_27_code "LineCollectorModel" 4 { frames := 7, cells := 0, slots := 0, locals := 154 } (some .int) (poI post) noX := C
  show Rn K G 4 0 [(0, .inr (.inl (some 17)))] [] μ 0 0
  have L_7 : ∀ (k : Int32 → Mem → Prop), (∀ (v1 : Int32) (μ : Mem), k v1 μ → Rn K G 4 24 [(0, .inr (.inl (some 17)))] [] μ 0 0) → ∀ (n : Nat) (l1 : Int32) (μ : Mem), wM_countSlots_7 k n l1 μ → Rn K G 4 7 [(0, .inr (.inl (some 17))), (1, .inl l1)] [] μ 0 0 := by
    intro k hk n
    induction n with
    | zero => intro l1 μ h; exact h.elim
    | succ n ih =>
      intro l1 μ h
      unfold wM_countSlots_7 at h
      refine r_iload_n (pc := 7) C d_M_countSlots_7 rfl 1 rfl ?_
      refine r_bipush (pc := 8) C d_M_countSlots_8 (v := 6) (by decide) ?_
      refine r_icmp_ge (tgt := 24) (pc := 10) C d_M_countSlots_10 (by decide) ?_ ?_
      · intro hc; replace h := h.1 hc
        refine r_sub [0] rfl ?_
        exact hk l1 μ h
      · intro hc; replace h := h.2 hc
        refine r_aload_n (pc := 13) C d_M_countSlots_13 rfl 0 rfl ?_
        refine r_iload_n (pc := 14) C d_M_countSlots_14 rfl 1 rfl ?_
        refine r_cVv (pc := 15) (a' := 0) (b' := 0) (As := [.inl l1]) (ci := 6) C (c_M_addSlot C.s h) o_M_addSlot rfl (lay_O rfl) (k_827 C.w) rfl ⟨by decide, by decide, by decide, by decide⟩ rfl rfl (Nat.le_of_ble_eq_true rfl) d_M_countSlots_15 rfl ?_
        intro μ2 h
        refine r_iinc (pc := 18) (v := 1) (lv' := [(0, .inr (.inl (some 17)))]) C d_M_countSlots_18 1 rfl (by decide) (by decide) rfl ?_
        refine r_goto (tgt := 7) (pc := 21) C d_M_countSlots_21 (by decide) ?_
        refine r_sub [1, 0] rfl ?_
        exact ih (l1 + 1) μ2 h
  have L_26 : ∀ (k : Int32 → Mem → Prop), (∀ (v1 : Int32) (μ : Mem), k v1 μ → Rn K G 4 53 [(0, .inr (.inl (some 17)))] [] μ 0 0) → ∀ (n : Nat) (l1 : Int32) (μ : Mem), wM_countSlots_26 k n l1 μ → Rn K G 4 26 [(0, .inr (.inl (some 17))), (1, .inl l1)] [] μ 0 0 := by
    intro k hk n
    induction n with
    | zero => intro l1 μ h; exact h.elim
    | succ n ih =>
      intro l1 μ h
      unfold wM_countSlots_26 at h
      refine r_iload_n (pc := 26) C d_M_countSlots_26 rfl 1 rfl ?_
      refine r_aload_n (pc := 27) C d_M_countSlots_27 rfl 0 rfl ?_
      refine r_getI (pc := 28) (ci := 6) C rfl 24 (by decide) (k_674 C.w) rfl (lay_O rfl) d_M_countSlots_28 ?_
      refine r_icmp_ge (tgt := 53) (pc := 31) C d_M_countSlots_31 (by decide) ?_ ?_
      · intro hc; replace h := h.1 hc
        refine r_sub [0] rfl ?_
        exact hk l1 μ h
      · intro hc; replace h := h.2 hc
        refine r_aload_n (pc := 34) C d_M_countSlots_34 rfl 0 rfl ?_
        refine r_bipush (pc := 35) C d_M_countSlots_35 (v := 6) (by decide) ?_
        refine r_aload_n (pc := 37) C d_M_countSlots_37 rfl 0 rfl ?_
        refine r_getR (pc := 38) (ci := 6) C rfl 22 (by decide) (k_672 C.w) rfl (lay_O rfl) d_M_countSlots_38 ?_
        refine r_iload_n (pc := 41) C d_M_countSlots_41 rfl 1 rfl ?_
        obtain ⟨b5, h⟩ := h
        refine r_iald (pc := 42) C (lay_A rfl) b5 d_M_countSlots_42 ?_
        refine r_iadd (pc := 43) C d_M_countSlots_43 ?_
        refine r_cVv (pc := 44) (a' := 0) (b' := 0) (As := [.inl (6 + (mI μ 31 (l1).toNatClampNeg))]) (ci := 6) C (c_M_addSlot C.s h) o_M_addSlot rfl (lay_O rfl) (k_827 C.w) rfl ⟨by decide, by decide, by decide, by decide⟩ rfl rfl (Nat.le_of_ble_eq_true rfl) d_M_countSlots_44 rfl ?_
        intro μ6 h
        refine r_iinc (pc := 47) (v := 1) (lv' := [(0, .inr (.inl (some 17)))]) C d_M_countSlots_47 1 rfl (by decide) (by decide) rfl ?_
        refine r_goto (tgt := 26) (pc := 50) C d_M_countSlots_50 (by decide) ?_
        refine r_sub [1, 0] rfl ?_
        exact ih (l1 + 1) μ6 h
  have J_150 : ∀ (l1 : Int32) (l2 : Int32) (l3 : Int32) (k57 : Int32 → Int32 → Mem → Prop) , (∀ (v1 : Int32) (v2 : Int32) (μ : Mem), k57 v1 v2 μ → Rn K G 4 57 [(0, .inr (.inl (some 17))), (1, .inl v1), (2, .inl v2)] [] μ 0 0) → ∀ (μ : Mem), wM_countSlots_150 l1 l2 l3 k57 μ → Rn K G 4 150 [(0, .inr (.inl (some 17))), (1, .inl l1), (2, .inl l2), (3, .inl l3)] [] μ 0 0 := by
    intro l1 l2 l3 k57 hk57 μ h
    unfold wM_countSlots_150 at h
    refine r_iload_n (pc := 150) C d_M_countSlots_150 rfl 3 rfl ?_
    refine r_if_lt (tgt := 172) (pc := 151) C d_M_countSlots_151 (by decide) ?_ ?_
    · intro hc; replace h := h.1 hc
      refine r_iinc (pc := 172) (v := 1) (lv' := [(0, .inr (.inl (some 17))), (1, .inl l1), (3, .inl l3)]) C d_M_countSlots_172 2 rfl (by decide) (by decide) rfl ?_
      refine r_goto (tgt := 57) (pc := 175) C d_M_countSlots_175 (by decide) ?_
      refine r_sub [1, 2, 0] rfl ?_
      exact hk57 l1 (l2 + 1) μ h
    · intro hc; replace h := h.2 hc
      refine r_aload_n (pc := 154) C d_M_countSlots_154 rfl 0 rfl ?_
      refine r_getR (pc := 155) (ci := 6) C rfl 2 (by decide) (k_652 C.w) rfl (lay_O rfl) d_M_countSlots_155 ?_
      refine r_iload_n (pc := 158) C d_M_countSlots_158 rfl 3 rfl ?_
      obtain ⟨b11, h⟩ := h
      refine r_iald (pc := 159) C (lay_A rfl) b11 d_M_countSlots_159 ?_
      refine r_iconst (pc := 160) C d_M_countSlots_160 (v := 1) (by decide) ?_
      refine r_icmp_ne (tgt := 172) (pc := 161) C d_M_countSlots_161 (by decide) ?_ ?_
      · intro hc; replace h := h.2 hc
        refine r_iinc (pc := 172) (v := 1) (lv' := [(0, .inr (.inl (some 17))), (1, .inl l1), (3, .inl l3)]) C d_M_countSlots_172 2 rfl (by decide) (by decide) rfl ?_
        refine r_goto (tgt := 57) (pc := 175) C d_M_countSlots_175 (by decide) ?_
        refine r_sub [1, 2, 0] rfl ?_
        exact hk57 l1 (l2 + 1) μ h
      · intro hc; replace h := h.1 hc
        refine r_aload_n (pc := 164) C d_M_countSlots_164 rfl 0 rfl ?_
        refine r_iload_n (pc := 165) C d_M_countSlots_165 rfl 3 rfl ?_
        refine r_cVv (pc := 166) (a' := 0) (b' := 0) (As := [.inl l3]) (ci := 6) C (c_M_survive C.s h) o_M_survive rfl (lay_O rfl) (k_831 C.w) rfl ⟨by decide, by decide, by decide, by decide⟩ rfl rfl (Nat.le_of_ble_eq_true rfl) d_M_countSlots_166 rfl ?_
        intro μ12 h
        refine r_iinc (pc := 169) (v := 1) (lv' := [(0, .inr (.inl (some 17))), (2, .inl l2), (3, .inl l3)]) C d_M_countSlots_169 1 rfl (by decide) (by decide) rfl ?_
        refine r_iinc (pc := 172) (v := 1) (lv' := [(1, .inl (l1 + 1)), (0, .inr (.inl (some 17))), (3, .inl l3)]) C d_M_countSlots_172 2 rfl (by decide) (by decide) rfl ?_
        refine r_goto (tgt := 57) (pc := 175) C d_M_countSlots_175 (by decide) ?_
        refine r_sub [2, 1, 0] rfl ?_
        exact hk57 (l1 + 1) (l2 + 1) μ12 h
  have J_104 : ∀ (l1 : Int32) (l2 : Int32) (t0 : Int32) (k57 : Int32 → Int32 → Mem → Prop) , (∀ (v1 : Int32) (v2 : Int32) (μ : Mem), k57 v1 v2 μ → Rn K G 4 57 [(0, .inr (.inl (some 17))), (1, .inl v1), (2, .inl v2)] [] μ 0 0) → ∀ (μ : Mem), wM_countSlots_104 l1 l2 t0 k57 μ → Rn K G 4 104 [(0, .inr (.inl (some 17))), (1, .inl l1), (2, .inl l2)] [.int t0] μ 0 0 := by
    intro l1 l2 t0 k57 hk57 μ h
    unfold wM_countSlots_104 at h
    refine r_istore_n (pc := 104) (lv' := [(0, .inr (.inl (some 17))), (1, .inl l1), (2, .inl l2)]) C d_M_countSlots_104 rfl (by decide) rfl ?_
    refine r_iload_n (pc := 105) C d_M_countSlots_105 rfl 0 rfl ?_
    refine r_if_lt (tgt := 150) (pc := 106) C d_M_countSlots_106 (by decide) ?_ ?_
    · intro hc; replace h := h.1 hc
      refine r_sub [1, 2, 3, 0] rfl ?_
      exact J_150 l1 l2 t0 k57 hk57 μ h
    · intro hc; replace h := h.2 hc
      refine r_aload_n (pc := 109) C d_M_countSlots_109 rfl 1 rfl ?_
      refine r_getR (pc := 110) (ci := 6) C rfl 2 (by decide) (k_652 C.w) rfl (lay_O rfl) d_M_countSlots_110 ?_
      refine r_iload_n (pc := 113) C d_M_countSlots_113 rfl 0 rfl ?_
      obtain ⟨b13, h⟩ := h
      refine r_iald (pc := 114) C (lay_A rfl) b13 d_M_countSlots_114 ?_
      refine r_iconst (pc := 115) C d_M_countSlots_115 (v := 2) (by decide) ?_
      refine r_icmp_ne (tgt := 150) (pc := 116) C d_M_countSlots_116 (by decide) ?_ ?_
      · intro hc; replace h := h.2 hc
        refine r_sub [1, 2, 3, 0] rfl ?_
        exact J_150 l1 l2 t0 k57 hk57 μ h
      · intro hc; replace h := h.1 hc
        refine r_aload_n (pc := 119) C d_M_countSlots_119 rfl 1 rfl ?_
        refine r_getR (pc := 120) (ci := 6) C rfl 6 (by decide) (k_656 C.w) rfl (lay_O rfl) d_M_countSlots_120 ?_
        refine r_iload_n (pc := 123) C d_M_countSlots_123 rfl 0 rfl ?_
        refine r_aload_n (pc := 124) C d_M_countSlots_124 rfl 1 rfl ?_
        refine r_getR (pc := 125) (ci := 6) C rfl 6 (by decide) (k_656 C.w) rfl (lay_O rfl) d_M_countSlots_125 ?_
        refine r_iload_n (pc := 128) C d_M_countSlots_128 rfl 0 rfl ?_
        refine r_iald (pc := 129) C (lay_A rfl) b13 d_M_countSlots_129 ?_
        refine r_iconst (pc := 130) C d_M_countSlots_130 (v := 3) (by decide) ?_
        refine r_icmp_ge (tgt := 145) (pc := 131) C d_M_countSlots_131 (by decide) ?_ ?_
        · intro hc; replace h := h.1 hc
          refine r_iconst (pc := 145) C d_M_countSlots_145 (v := 3) (by decide) ?_
          refine r_iast (pc := 146) C (lay_A rfl) b13 d_M_countSlots_146 ?_
          intro μ14 eμ14; replace h := h μ14 eμ14
          refine r_goto (tgt := 172) (pc := 147) C d_M_countSlots_147 (by decide) ?_
          refine r_iinc (pc := 172) (v := 1) (lv' := [(3, .inl t0), (0, .inr (.inl (some 17))), (1, .inl l1)]) C d_M_countSlots_172 3 rfl (by decide) (by decide) rfl ?_
          refine r_goto (tgt := 57) (pc := 175) C d_M_countSlots_175 (by decide) ?_
          refine r_sub [2, 3, 0] rfl ?_
          exact hk57 l1 (l2 + 1) μ14 h
        · intro hc; replace h := h.2 hc
          refine r_aload_n (pc := 134) C d_M_countSlots_134 rfl 1 rfl ?_
          refine r_getR (pc := 135) (ci := 6) C rfl 6 (by decide) (k_656 C.w) rfl (lay_O rfl) d_M_countSlots_135 ?_
          refine r_iload_n (pc := 138) C d_M_countSlots_138 rfl 0 rfl ?_
          refine r_iald (pc := 139) C (lay_A rfl) b13 d_M_countSlots_139 ?_
          refine r_iconst (pc := 140) C d_M_countSlots_140 (v := 1) (by decide) ?_
          refine r_iadd (pc := 141) C d_M_countSlots_141 ?_
          refine r_goto (tgt := 146) (pc := 142) C d_M_countSlots_142 (by decide) ?_
          refine r_iast (pc := 146) C (lay_A rfl) b13 d_M_countSlots_146 ?_
          intro μ15 eμ15; replace h := h μ15 eμ15
          refine r_goto (tgt := 172) (pc := 147) C d_M_countSlots_147 (by decide) ?_
          refine r_iinc (pc := 172) (v := 1) (lv' := [(3, .inl t0), (0, .inr (.inl (some 17))), (1, .inl l1)]) C d_M_countSlots_172 3 rfl (by decide) (by decide) rfl ?_
          refine r_goto (tgt := 57) (pc := 175) C d_M_countSlots_175 (by decide) ?_
          refine r_sub [2, 3, 0] rfl ?_
          exact hk57 l1 (l2 + 1) μ15 h
  have L_57 : ∀ (k : Int32 → Int32 → Mem → Prop), (∀ (v1 : Int32) (v2 : Int32) (μ : Mem), k v1 v2 μ → Rn K G 4 178 [(1, .inl v1)] [] μ 0 0) → ∀ (n : Nat) (l1 : Int32) (l2 : Int32) (μ : Mem), wM_countSlots_57 k n l1 l2 μ → Rn K G 4 57 [(0, .inr (.inl (some 17))), (1, .inl l1), (2, .inl l2)] [] μ 0 0 := by
    intro k hk n
    induction n with
    | zero => intro l1 l2 μ h; exact h.elim
    | succ n ih =>
      intro l1 l2 μ h
      unfold wM_countSlots_57 at h
      refine r_iload_n (pc := 57) C d_M_countSlots_57 rfl 2 rfl ?_
      refine r_aload_n (pc := 58) C d_M_countSlots_58 rfl 0 rfl ?_
      refine r_getI (pc := 59) (ci := 6) C rfl 26 (by decide) (k_676 C.w) rfl (lay_O rfl) d_M_countSlots_59 ?_
      refine r_icmp_ge (tgt := 178) (pc := 62) C d_M_countSlots_62 (by decide) ?_ ?_
      · intro hc; replace h := h.1 hc
        refine r_sub [1] rfl ?_
        exact hk l1 l2 μ h
      · intro hc; replace h := h.2 hc
        refine r_aload_n (pc := 65) C d_M_countSlots_65 rfl 0 rfl ?_
        refine r_getR (pc := 66) (ci := 6) C rfl 25 (by decide) (k_675 C.w) rfl (lay_O rfl) d_M_countSlots_66 ?_
        refine r_iload_n (pc := 69) C d_M_countSlots_69 rfl 2 rfl ?_
        obtain ⟨b9, h⟩ := h
        refine r_iald (pc := 70) C (lay_A rfl) b9 d_M_countSlots_70 ?_
        refine r_bipush (pc := 71) C d_M_countSlots_71 (v := 6) (by decide) ?_
        refine r_icmp_ge (tgt := 90) (pc := 73) C d_M_countSlots_73 (by decide) ?_ ?_
        · intro hc; replace h := h.1 hc
          refine r_aload_n (pc := 90) C d_M_countSlots_90 rfl 0 rfl ?_
          refine r_getR (pc := 91) (ci := 6) C rfl 8 (by decide) (k_658 C.w) rfl (lay_O rfl) d_M_countSlots_91 ?_
          refine r_aload_n (pc := 94) C d_M_countSlots_94 rfl 0 rfl ?_
          refine r_getR (pc := 95) (ci := 6) C rfl 25 (by decide) (k_675 C.w) rfl (lay_O rfl) d_M_countSlots_95 ?_
          refine r_iload_n (pc := 98) C d_M_countSlots_98 rfl 2 rfl ?_
          refine r_iald (pc := 99) C (lay_A rfl) b9 d_M_countSlots_99 ?_
          refine r_bipush (pc := 100) C d_M_countSlots_100 (v := 6) (by decide) ?_
          refine r_isub (pc := 102) C d_M_countSlots_102 ?_
          obtain ⟨b10, h⟩ := h
          refine r_iald (pc := 103) C (lay_A rfl) b10 d_M_countSlots_103 ?_
          exact J_104 l1 l2 (mI μ 25 ((mI μ 33 (l2).toNatClampNeg) - 6).toNatClampNeg) ((wM_countSlots_57 k n)) ih μ h
        · intro hc; replace h := h.2 hc
          refine r_aload_n (pc := 76) C d_M_countSlots_76 rfl 0 rfl ?_
          refine r_getR (pc := 77) (ci := 6) C rfl 11 (by decide) (k_661 C.w) rfl (lay_O rfl) d_M_countSlots_77 ?_
          refine r_aload_n (pc := 80) C d_M_countSlots_80 rfl 0 rfl ?_
          refine r_getR (pc := 81) (ci := 6) C rfl 25 (by decide) (k_675 C.w) rfl (lay_O rfl) d_M_countSlots_81 ?_
          refine r_iload_n (pc := 84) C d_M_countSlots_84 rfl 2 rfl ?_
          refine r_iald (pc := 85) C (lay_A rfl) b9 d_M_countSlots_85 ?_
          obtain ⟨b16, h⟩ := h
          refine r_iald (pc := 86) C (lay_A rfl) b16 d_M_countSlots_86 ?_
          refine r_goto (tgt := 104) (pc := 87) C d_M_countSlots_87 (by decide) ?_
          exact J_104 l1 l2 (mI μ 27 (mI μ 33 (l2).toNatClampNeg).toNatClampNeg) ((wM_countSlots_57 k n)) ih μ h
  unfold wM_countSlots at h
  refine r_aload_n (pc := 0) C d_M_countSlots_0 rfl 0 rfl ?_
  refine r_iconst (pc := 1) C d_M_countSlots_1 (v := 0) (by decide) ?_
  refine r_putI (pc := 2) (ci := 6) C rfl 26 (by decide) (k_676 C.w) rfl rfl p_I (lay_O rfl) d_M_countSlots_2 ?_
  intro μ1 eμ1; replace h := h μ1 eμ1
  refine r_iconst (pc := 5) C d_M_countSlots_5 (v := 0) (by decide) ?_
  refine r_istore_n (pc := 6) (lv' := [(0, .inr (.inl (some 17)))]) C d_M_countSlots_6 rfl (by decide) rfl ?_
  obtain ⟨n22, h⟩ := h
  refine r_sub [1, 0] rfl ?_
  refine L_7 _ ?_ n22 0 μ1 h
  intro v4 μ3 h
  refine r_iconst (pc := 24) C d_M_countSlots_24 (v := 0) (by decide) ?_
  refine r_istore_n (pc := 25) (lv' := [(0, .inr (.inl (some 17)))]) C d_M_countSlots_25 rfl (by decide) rfl ?_
  obtain ⟨n21, h⟩ := h
  refine r_sub [1, 0] rfl ?_
  refine L_26 _ ?_ n21 0 μ3 h
  intro v8 μ7 h
  refine r_iconst (pc := 53) C d_M_countSlots_53 (v := 0) (by decide) ?_
  refine r_istore_n (pc := 54) (lv' := [(0, .inr (.inl (some 17)))]) C d_M_countSlots_54 rfl (by decide) rfl ?_
  refine r_iconst (pc := 55) C d_M_countSlots_55 (v := 0) (by decide) ?_
  refine r_istore_n (pc := 56) (lv' := [(1, .inl 0), (0, .inr (.inl (some 17)))]) C d_M_countSlots_56 rfl (by decide) rfl ?_
  obtain ⟨n20, h⟩ := h
  refine r_sub [2, 1, 0] rfl ?_
  refine L_57 _ ?_ n20 0 0 μ7 h
  intro v18 v19 μ17 h
  refine r_iload_n (pc := 178) C d_M_countSlots_178 rfl 0 rfl ?_
  exact r_iret (pc := 179) C d_M_countSlots_179 (by decide) (by decide) h
theorem c_M_endStep {l : Launch} (hl : l.stackTraces = false) {G : Gl} {post : Mem → Prop} {μ : Mem} (h : wM_endStep post μ) : Ct l G i_M_endStep [.inr (.inl (some 17))] μ (poV post) noX := by
  refine ct_of hl (by decide) (Nat.le_of_ble_eq_true rfl) ?_
  intro K hKl C hE
  clear hl hKl
  replace C : Cx K G prog_8_method_28_code "LineCollectorModel" 2 { frames := 0, cells := 0, slots := 0, locals := 0 } (none) (poV post) noX := C
  show Rn K G 2 0 [(0, .inr (.inl (some 17)))] [] μ 0 0
  have L_2 : ∀ (k : Int32 → Mem → Prop), (∀ (v1 : Int32) (μ : Mem), k v1 μ → Rn K G 2 21 [] [] μ 0 0) → ∀ (n : Nat) (l1 : Int32) (μ : Mem), wM_endStep_2 k n l1 μ → Rn K G 2 2 [(0, .inr (.inl (some 17))), (1, .inl l1)] [] μ 0 0 := by
    intro k hk n
    induction n with
    | zero => intro l1 μ h; exact h.elim
    | succ n ih =>
      intro l1 μ h
      unfold wM_endStep_2 at h
      refine r_iload_n (pc := 2) C d_M_endStep_2 rfl 1 rfl ?_
      refine r_bipush (pc := 3) C d_M_endStep_3 (v := 32) (by decide) ?_
      refine r_icmp_ge (tgt := 21) (pc := 5) C d_M_endStep_5 (by decide) ?_ ?_
      · intro hc; replace h := h.1 hc
        refine r_sub [] rfl ?_
        exact hk l1 μ h
      · intro hc; replace h := h.2 hc
        refine r_aload_n (pc := 8) C d_M_endStep_8 rfl 0 rfl ?_
        refine r_getR (pc := 9) (ci := 6) C rfl 18 (by decide) (k_668 C.w) rfl (lay_O rfl) d_M_endStep_9 ?_
        refine r_iload_n (pc := 12) C d_M_endStep_12 rfl 1 rfl ?_
        refine r_iconst (pc := 13) C d_M_endStep_13 (v := 0) (by decide) ?_
        obtain ⟨b1, h⟩ := h
        refine r_zast (pc := 14) C (lay_A rfl) b1 d_M_endStep_14 (Or.inl rfl) ?_
        intro μ2 eμ2; replace h := h μ2 eμ2
        refine r_iinc (pc := 15) (v := 1) (lv' := [(0, .inr (.inl (some 17)))]) C d_M_endStep_15 1 rfl (by decide) (by decide) rfl ?_
        refine r_goto (tgt := 2) (pc := 18) C d_M_endStep_18 (by decide) ?_
        refine r_sub [1, 0] rfl ?_
        exact ih (l1 + 1) μ2 h
  unfold wM_endStep at h
  refine r_iconst (pc := 0) C d_M_endStep_0 (v := 0) (by decide) ?_
  refine r_istore_n (pc := 1) (lv' := [(0, .inr (.inl (some 17)))]) C d_M_endStep_1 rfl (by decide) rfl ?_
  obtain ⟨n5, h⟩ := h
  refine r_sub [1, 0] rfl ?_
  refine L_2 _ ?_ n5 0 μ h
  intro v4 μ3 h
  exact r_vret (pc := 21) C d_M_endStep_21 (by decide) (by decide) h
theorem c_M_settle {l : Launch} (hl : l.stackTraces = false) {G : Gl} {post : Mem → Prop} {μ : Mem} (h : wM_settle post μ) : Ct l G i_M_settle [.inr (.inl (some 17))] μ (poV post) noX := by
  refine ct_of hl (by decide) (Nat.le_of_ble_eq_true rfl) ?_
  intro K hKl C hE
  clear hl hKl
  replace C : Cx K G prog_8_method_29_code "LineCollectorModel" 2 { frames := 2, cells := 0, slots := 0, locals := 44 } (none) (poV post) noX := C
  show Rn K G 2 0 [(0, .inr (.inl (some 17)))] [] μ 0 0
  have L_2 : ∀ (k : Int32 → Mem → Prop), (∀ (v1 : Int32) (μ : Mem), k v1 μ → Rn K G 2 30 [(0, .inr (.inl (some 17)))] [] μ 0 0) → ∀ (n : Nat) (l1 : Int32) (μ : Mem), wM_settle_2 k n l1 μ → Rn K G 2 2 [(0, .inr (.inl (some 17))), (1, .inl l1)] [] μ 0 0 := by
    intro k hk n
    induction n with
    | zero => intro l1 μ h; exact h.elim
    | succ n ih =>
      intro l1 μ h
      unfold wM_settle_2 at h
      refine r_iload_n (pc := 2) C d_M_settle_2 rfl 1 rfl ?_
      refine r_sipush (pc := 3) C d_M_settle_3 (v := 256) (by decide) ?_
      refine r_icmp_ge (tgt := 30) (pc := 6) C d_M_settle_6 (by decide) ?_ ?_
      · intro hc; replace h := h.1 hc
        refine r_sub [0] rfl ?_
        exact hk l1 μ h
      · intro hc; replace h := h.2 hc
        refine r_aload_n (pc := 9) C d_M_settle_9 rfl 0 rfl ?_
        refine r_getR (pc := 10) (ci := 6) C rfl 2 (by decide) (k_652 C.w) rfl (lay_O rfl) d_M_settle_10 ?_
        refine r_iload_n (pc := 13) C d_M_settle_13 rfl 1 rfl ?_
        obtain ⟨b1, h⟩ := h
        refine r_iald (pc := 14) C (lay_A rfl) b1 d_M_settle_14 ?_
        refine r_iconst (pc := 15) C d_M_settle_15 (v := 1) (by decide) ?_
        refine r_icmp_ne (tgt := 24) (pc := 16) C d_M_settle_16 (by decide) ?_ ?_
        · intro hc; replace h := h.2 hc
          refine r_iinc (pc := 24) (v := 1) (lv' := [(0, .inr (.inl (some 17)))]) C d_M_settle_24 1 rfl (by decide) (by decide) rfl ?_
          refine r_goto (tgt := 2) (pc := 27) C d_M_settle_27 (by decide) ?_
          refine r_sub [1, 0] rfl ?_
          exact ih (l1 + 1) μ h
        · intro hc; replace h := h.1 hc
          refine r_aload_n (pc := 19) C d_M_settle_19 rfl 0 rfl ?_
          refine r_iload_n (pc := 20) C d_M_settle_20 rfl 1 rfl ?_
          refine r_cVv (pc := 21) (a' := 0) (b' := 0) (As := [.inl l1]) (ci := 6) C (c_M_lose C.s h) o_M_lose rfl (lay_O rfl) (k_811 C.w) rfl ⟨by decide, by decide, by decide, by decide⟩ rfl rfl (Nat.le_of_ble_eq_true rfl) d_M_settle_21 rfl ?_
          intro μ2 h
          refine r_iinc (pc := 24) (v := 1) (lv' := [(0, .inr (.inl (some 17)))]) C d_M_settle_24 1 rfl (by decide) (by decide) rfl ?_
          refine r_goto (tgt := 2) (pc := 27) C d_M_settle_27 (by decide) ?_
          refine r_sub [1, 0] rfl ?_
          exact ih (l1 + 1) μ2 h
  have L_32 : ∀ (k : Int32 → Mem → Prop), (∀ (v1 : Int32) (μ : Mem), k v1 μ → Rn K G 2 54 [(0, .inr (.inl (some 17)))] [] μ 0 0) → ∀ (n : Nat) (l1 : Int32) (μ : Mem), wM_settle_32 k n l1 μ → Rn K G 2 32 [(0, .inr (.inl (some 17))), (1, .inl l1)] [] μ 0 0 := by
    intro k hk n
    induction n with
    | zero => intro l1 μ h; exact h.elim
    | succ n ih =>
      intro l1 μ h
      unfold wM_settle_32 at h
      refine r_iload_n (pc := 32) C d_M_settle_32 rfl 1 rfl ?_
      refine r_bipush (pc := 33) C d_M_settle_33 (v := 6) (by decide) ?_
      refine r_icmp_ge (tgt := 54) (pc := 35) C d_M_settle_35 (by decide) ?_ ?_
      · intro hc; replace h := h.1 hc
        refine r_sub [0] rfl ?_
        exact hk l1 μ h
      · intro hc; replace h := h.2 hc
        refine r_aload_n (pc := 38) C d_M_settle_38 rfl 0 rfl ?_
        refine r_aload_n (pc := 39) C d_M_settle_39 rfl 0 rfl ?_
        refine r_getR (pc := 40) (ci := 6) C rfl 12 (by decide) (k_662 C.w) rfl (lay_O rfl) d_M_settle_40 ?_
        refine r_iload_n (pc := 43) C d_M_settle_43 rfl 1 rfl ?_
        obtain ⟨b5, h⟩ := h
        refine r_iald (pc := 44) C (lay_A rfl) b5 d_M_settle_44 ?_
        refine r_cVv (pc := 45) (a' := 0) (b' := 0) (As := [.inl (mI μ 28 (l1).toNatClampNeg)]) (ci := 6) C (c_M_wait C.s h) o_M_wait rfl (lay_O rfl) (k_803 C.w) rfl ⟨by decide, by decide, by decide, by decide⟩ rfl rfl (Nat.le_of_ble_eq_true rfl) d_M_settle_45 rfl ?_
        intro μ6 h
        refine r_iinc (pc := 48) (v := 1) (lv' := [(0, .inr (.inl (some 17)))]) C d_M_settle_48 1 rfl (by decide) (by decide) rfl ?_
        refine r_goto (tgt := 32) (pc := 51) C d_M_settle_51 (by decide) ?_
        refine r_sub [1, 0] rfl ?_
        exact ih (l1 + 1) μ6 h
  have J_106 : ∀ (l1 : Int32) (k56 : Int32 → Mem → Prop) , (∀ (v1 : Int32) (μ : Mem), k56 v1 μ → Rn K G 2 56 [(0, .inr (.inl (some 17))), (1, .inl v1)] [] μ 0 0) → ∀ (μ : Mem), wM_settle_106 l1 k56 μ → Rn K G 2 106 [(0, .inr (.inl (some 17))), (1, .inl l1)] [] μ 0 0 := by
    intro l1 k56 hk56 μ h
    unfold wM_settle_106 at h
    refine r_aload_n (pc := 106) C d_M_settle_106 rfl 0 rfl ?_
    refine r_getR (pc := 107) (ci := 6) C rfl 9 (by decide) (k_659 C.w) rfl (lay_O rfl) d_M_settle_107 ?_
    refine r_aload_n (pc := 110) C d_M_settle_110 rfl 0 rfl ?_
    refine r_getR (pc := 111) (ci := 6) C rfl 22 (by decide) (k_672 C.w) rfl (lay_O rfl) d_M_settle_111 ?_
    refine r_iload_n (pc := 114) C d_M_settle_114 rfl 1 rfl ?_
    obtain ⟨b11, h⟩ := h
    refine r_iald (pc := 115) C (lay_A rfl) b11 d_M_settle_115 ?_
    refine r_iconst (pc := 116) C d_M_settle_116 (v := 0) (by decide) ?_
    obtain ⟨b12, h⟩ := h
    refine r_zast (pc := 117) C (lay_A rfl) b12 d_M_settle_117 (Or.inl rfl) ?_
    intro μ13 eμ13; replace h := h μ13 eμ13
    refine r_iinc (pc := 118) (v := 1) (lv' := [(0, .inr (.inl (some 17)))]) C d_M_settle_118 1 rfl (by decide) (by decide) rfl ?_
    refine r_goto (tgt := 56) (pc := 121) C d_M_settle_121 (by decide) ?_
    refine r_sub [1, 0] rfl ?_
    exact hk56 (l1 + 1) μ13 h
  have L_56 : ∀ (k : Int32 → Mem → Prop), (∀ (v1 : Int32) (μ : Mem), k v1 μ → Rn K G 2 124 [(0, .inr (.inl (some 17)))] [] μ 0 0) → ∀ (n : Nat) (l1 : Int32) (μ : Mem), wM_settle_56 k n l1 μ → Rn K G 2 56 [(0, .inr (.inl (some 17))), (1, .inl l1)] [] μ 0 0 := by
    intro k hk n
    induction n with
    | zero => intro l1 μ h; exact h.elim
    | succ n ih =>
      intro l1 μ h
      unfold wM_settle_56 at h
      refine r_iload_n (pc := 56) C d_M_settle_56 rfl 1 rfl ?_
      refine r_aload_n (pc := 57) C d_M_settle_57 rfl 0 rfl ?_
      refine r_getI (pc := 58) (ci := 6) C rfl 24 (by decide) (k_674 C.w) rfl (lay_O rfl) d_M_settle_58 ?_
      refine r_icmp_ge (tgt := 124) (pc := 61) C d_M_settle_61 (by decide) ?_ ?_
      · intro hc; replace h := h.1 hc
        refine r_sub [0] rfl ?_
        exact hk l1 μ h
      · intro hc; replace h := h.2 hc
        refine r_aload_n (pc := 64) C d_M_settle_64 rfl 0 rfl ?_
        refine r_aload_n (pc := 65) C d_M_settle_65 rfl 0 rfl ?_
        refine r_getR (pc := 66) (ci := 6) C rfl 23 (by decide) (k_673 C.w) rfl (lay_O rfl) d_M_settle_66 ?_
        refine r_iload_n (pc := 69) C d_M_settle_69 rfl 1 rfl ?_
        obtain ⟨b9, h⟩ := h
        refine r_iald (pc := 70) C (lay_A rfl) b9 d_M_settle_70 ?_
        refine r_cVv (pc := 71) (a' := 0) (b' := 0) (As := [.inl (mI μ 32 (l1).toNatClampNeg)]) (ci := 6) C (c_M_wait C.s h) o_M_wait rfl (lay_O rfl) (k_803 C.w) rfl ⟨by decide, by decide, by decide, by decide⟩ rfl rfl (Nat.le_of_ble_eq_true rfl) d_M_settle_71 rfl ?_
        intro μ10 h
        refine r_aload_n (pc := 74) C d_M_settle_74 rfl 0 rfl ?_
        refine r_getI (pc := 75) (ci := 6) C rfl 27 (by decide) (k_677 C.w) rfl (lay_O rfl) d_M_settle_75 ?_
        refine r_if_eq (tgt := 106) (pc := 78) C d_M_settle_78 (by decide) ?_ ?_
        · intro hc; replace h := h.1 hc
          exact J_106 l1 ((wM_settle_56 k n)) ih μ10 h
        · intro hc; replace h := h.2 hc
          refine r_aload_n (pc := 81) C d_M_settle_81 rfl 0 rfl ?_
          refine r_aload_n (pc := 82) C d_M_settle_82 rfl 0 rfl ?_
          refine r_getR (pc := 83) (ci := 6) C rfl 23 (by decide) (k_673 C.w) rfl (lay_O rfl) d_M_settle_83 ?_
          refine r_iload_n (pc := 86) C d_M_settle_86 rfl 1 rfl ?_
          obtain ⟨b14, h⟩ := h
          refine r_iald (pc := 87) C (lay_A rfl) b14 d_M_settle_87 ?_
          refine r_cVi (pc := 88) (a' := 0) (b' := 0) (As := [.inl (mI μ10 32 (l1).toNatClampNeg)]) (ci := 6) C (c_M_isWhite C.s h) o_M_isWhite rfl (lay_O rfl) (k_807 C.w) rfl ⟨by decide, by decide, by decide, by decide⟩ rfl rfl (Nat.le_of_ble_eq_true rfl) d_M_settle_88 rfl ?_
          intro r16 μ15 h
          refine r_if_eq (tgt := 106) (pc := 91) C d_M_settle_91 (by decide) ?_ ?_
          · intro hc; replace h := h.1 hc
            exact J_106 l1 ((wM_settle_56 k n)) ih μ15 h
          · intro hc; replace h := h.2 hc
            refine r_aload_n (pc := 94) C d_M_settle_94 rfl 0 rfl ?_
            refine r_getR (pc := 95) (ci := 6) C rfl 7 (by decide) (k_657 C.w) rfl (lay_O rfl) d_M_settle_95 ?_
            refine r_aload_n (pc := 98) C d_M_settle_98 rfl 0 rfl ?_
            refine r_getR (pc := 99) (ci := 6) C rfl 23 (by decide) (k_673 C.w) rfl (lay_O rfl) d_M_settle_99 ?_
            refine r_iload_n (pc := 102) C d_M_settle_102 rfl 1 rfl ?_
            obtain ⟨b17, h⟩ := h
            refine r_iald (pc := 103) C (lay_A rfl) b17 d_M_settle_103 ?_
            refine r_iconst (pc := 104) C d_M_settle_104 (v := 1) (by decide) ?_
            obtain ⟨b18, h⟩ := h
            refine r_iast (pc := 105) C (lay_A rfl) b18 d_M_settle_105 ?_
            intro μ19 eμ19; replace h := h μ19 eμ19
            exact J_106 l1 ((wM_settle_56 k n)) ih μ19 h
  unfold wM_settle at h
  refine r_iconst (pc := 0) C d_M_settle_0 (v := 0) (by decide) ?_
  refine r_istore_n (pc := 1) (lv' := [(0, .inr (.inl (some 17)))]) C d_M_settle_1 rfl (by decide) rfl ?_
  obtain ⟨n25, h⟩ := h
  refine r_sub [1, 0] rfl ?_
  refine L_2 _ ?_ n25 0 μ h
  intro v4 μ3 h
  refine r_iconst (pc := 30) C d_M_settle_30 (v := 0) (by decide) ?_
  refine r_istore_n (pc := 31) (lv' := [(0, .inr (.inl (some 17)))]) C d_M_settle_31 rfl (by decide) rfl ?_
  obtain ⟨n24, h⟩ := h
  refine r_sub [1, 0] rfl ?_
  refine L_32 _ ?_ n24 0 μ3 h
  intro v8 μ7 h
  refine r_iconst (pc := 54) C d_M_settle_54 (v := 0) (by decide) ?_
  refine r_istore_n (pc := 55) (lv' := [(0, .inr (.inl (some 17)))]) C d_M_settle_55 rfl (by decide) rfl ?_
  obtain ⟨n23, h⟩ := h
  refine r_sub [1, 0] rfl ?_
  refine L_56 _ ?_ n23 0 μ7 h
  intro v21 μ20 h
  refine r_aload_n (pc := 124) C d_M_settle_124 rfl 0 rfl ?_
  refine r_iconst (pc := 125) C d_M_settle_125 (v := 0) (by decide) ?_
  refine r_putI (pc := 126) (ci := 6) C rfl 24 (by decide) (k_674 C.w) rfl rfl p_I (lay_O rfl) d_M_settle_126 ?_
  intro μ22 eμ22; replace h := h μ22 eμ22
  exact r_vret (pc := 129) C d_M_settle_129 (by decide) (by decide) h
theorem c_M_sweep {l : Launch} (hl : l.stackTraces = false) {G : Gl} {post : Mem → Prop} {μ : Mem} (h : wM_sweep post μ) : Ct l G i_M_sweep [.inr (.inl (some 17))] μ (poV post) noX := by
  refine ct_of hl (by decide) (Nat.le_of_ble_eq_true rfl) ?_
  intro K hKl C hE
  clear hl hKl
  replace C : Cx K G prog_8_method_30_code "LineCollectorModel" 5 { frames := 2, cells := 0, slots := 0, locals := 44 } (none) (poV post) noX := C
  show Rn K G 5 0 [(0, .inr (.inl (some 17)))] [] μ 0 0
  have L_17 : ∀ (l2 : Int32) (l1 : Int32) (k : Int32 → Mem → Prop), (∀ (v3 : Int32) (μ : Mem), k v3 μ → Rn K G 5 74 [(0, .inr (.inl (some 17))), (1, .inl l1)] [] μ 0 0) → ∀ (n : Nat) (l3 : Int32) (μ : Mem), wM_sweep_17 l2 k n l3 μ → Rn K G 5 17 [(0, .inr (.inl (some 17))), (1, .inl l1), (2, .inl l2), (3, .inl l3)] [] μ 0 0 := by
    intro l2 l1 k hk n
    induction n with
    | zero => intro l3 μ h; exact h.elim
    | succ n ih =>
      intro l3 μ h
      unfold wM_sweep_17 at h
      refine r_aload_n (pc := 17) C d_M_sweep_17 rfl 0 rfl ?_
      refine r_iload_n (pc := 18) C d_M_sweep_18 rfl 2 rfl ?_
      refine r_cVi (pc := 19) (a' := 0) (b' := 0) (As := [.inl l2]) (ci := 6) C (c_M_isWhite C.s h) o_M_isWhite rfl (lay_O rfl) (k_807 C.w) rfl ⟨by decide, by decide, by decide, by decide⟩ rfl rfl (Nat.le_of_ble_eq_true rfl) d_M_sweep_19 rfl ?_
      intro r4 μ3 h
      refine r_if_eq (tgt := 74) (pc := 22) C d_M_sweep_22 (by decide) ?_ ?_
      · intro hc; replace h := h.1 hc
        refine r_sub [0, 1] rfl ?_
        exact hk l3 μ3 h
      · intro hc; replace h := h.2 hc
        refine r_iload_n (pc := 25) C d_M_sweep_25 rfl 3 rfl ?_
        refine r_aload_n (pc := 26) C d_M_sweep_26 rfl 0 rfl ?_
        refine r_getR (pc := 27) (ci := 6) C rfl 4 (by decide) (k_654 C.w) rfl (lay_O rfl) d_M_sweep_27 ?_
        refine r_iload_n (pc := 30) C d_M_sweep_30 rfl 2 rfl ?_
        obtain ⟨b5, h⟩ := h
        refine r_iald (pc := 31) C (lay_A rfl) b5 d_M_sweep_31 ?_
        refine r_icmp_ge (tgt := 74) (pc := 32) C d_M_sweep_32 (by decide) ?_ ?_
        · intro hc; replace h := h.1 hc
          refine r_sub [0, 1] rfl ?_
          exact hk l3 μ3 h
        · intro hc; replace h := h.2 hc
          refine r_aload_n (pc := 35) C d_M_sweep_35 rfl 0 rfl ?_
          refine r_getR (pc := 36) (ci := 6) C rfl 8 (by decide) (k_658 C.w) rfl (lay_O rfl) d_M_sweep_36 ?_
          refine r_bipush (pc := 39) C d_M_sweep_39 (v := 12) (by decide) ?_
          refine r_iload_n (pc := 41) C d_M_sweep_41 rfl 2 rfl ?_
          refine r_imul (pc := 42) C d_M_sweep_42 ?_
          refine r_iload_n (pc := 43) C d_M_sweep_43 rfl 3 rfl ?_
          refine r_iadd (pc := 44) C d_M_sweep_44 ?_
          obtain ⟨b6, h⟩ := h
          refine r_iald (pc := 45) C (lay_A rfl) b6 d_M_sweep_45 ?_
          refine r_istore (pc := 46) (lv' := [(0, .inr (.inl (some 17))), (1, .inl l1), (2, .inl l2), (3, .inl l3)]) C d_M_sweep_46 (by decide) rfl ?_
          refine r_iload (pc := 48) C d_M_sweep_48 0 rfl ?_
          refine r_if_lt (tgt := 68) (pc := 50) C d_M_sweep_50 (by decide) ?_ ?_
          · intro hc; replace h := h.1 hc
            refine r_iinc (pc := 68) (v := 1) (lv' := [(4, .inl (mI μ3 25 ((12 * l2) + l3).toNatClampNeg)), (0, .inr (.inl (some 17))), (1, .inl l1), (2, .inl l2)]) C d_M_sweep_68 4 rfl (by decide) (by decide) rfl ?_
            refine r_goto (tgt := 17) (pc := 71) C d_M_sweep_71 (by decide) ?_
            refine r_sub [2, 3, 4, 0] rfl ?_
            exact ih (l3 + 1) μ3 h
          · intro hc; replace h := h.2 hc
            refine r_aload_n (pc := 53) C d_M_sweep_53 rfl 1 rfl ?_
            refine r_iload (pc := 54) C d_M_sweep_54 0 rfl ?_
            refine r_cVi (pc := 56) (a' := 0) (b' := 0) (As := [.inl (mI μ3 25 ((12 * l2) + l3).toNatClampNeg)]) (ci := 6) C (c_M_isWhite C.s h) o_M_isWhite rfl (lay_O rfl) (k_807 C.w) rfl ⟨by decide, by decide, by decide, by decide⟩ rfl rfl (Nat.le_of_ble_eq_true rfl) d_M_sweep_56 rfl ?_
            intro r8 μ7 h
            refine r_if_ne (tgt := 68) (pc := 59) C d_M_sweep_59 (by decide) ?_ ?_
            · intro hc; replace h := h.2 hc
              refine r_iinc (pc := 68) (v := 1) (lv' := [(4, .inl (mI μ3 25 ((12 * l2) + l3).toNatClampNeg)), (0, .inr (.inl (some 17))), (1, .inl l1), (2, .inl l2)]) C d_M_sweep_68 4 rfl (by decide) (by decide) rfl ?_
              refine r_goto (tgt := 17) (pc := 71) C d_M_sweep_71 (by decide) ?_
              refine r_sub [2, 3, 4, 0] rfl ?_
              exact ih (l3 + 1) μ7 h
            · intro hc; replace h := h.1 hc
              refine r_aload_n (pc := 62) C d_M_sweep_62 rfl 1 rfl ?_
              refine r_iload (pc := 63) C d_M_sweep_63 0 rfl ?_
              refine r_cVv (pc := 65) (a' := 0) (b' := 0) (As := [.inl (mI μ3 25 ((12 * l2) + l3).toNatClampNeg)]) (ci := 6) C (c_M_wait C.s h) o_M_wait rfl (lay_O rfl) (k_803 C.w) rfl ⟨by decide, by decide, by decide, by decide⟩ rfl rfl (Nat.le_of_ble_eq_true rfl) d_M_sweep_65 rfl ?_
              intro μ9 h
              refine r_iinc (pc := 68) (v := 1) (lv' := [(4, .inl (mI μ3 25 ((12 * l2) + l3).toNatClampNeg)), (0, .inr (.inl (some 17))), (1, .inl l1), (2, .inl l2)]) C d_M_sweep_68 4 rfl (by decide) (by decide) rfl ?_
              refine r_goto (tgt := 17) (pc := 71) C d_M_sweep_71 (by decide) ?_
              refine r_sub [2, 3, 4, 0] rfl ?_
              exact ih (l3 + 1) μ9 h
  have L_2 : ∀ (k : Int32 → Mem → Prop), (∀ (v1 : Int32) (μ : Mem), k v1 μ → Rn K G 5 80 [(0, .inr (.inl (some 17)))] [] μ 0 0) → ∀ (n : Nat) (l1 : Int32) (μ : Mem), wM_sweep_2 k n l1 μ → Rn K G 5 2 [(0, .inr (.inl (some 17))), (1, .inl l1)] [] μ 0 0 := by
    intro k hk n
    induction n with
    | zero => intro l1 μ h; exact h.elim
    | succ n ih =>
      intro l1 μ h
      unfold wM_sweep_2 at h
      refine r_iload_n (pc := 2) C d_M_sweep_2 rfl 1 rfl ?_
      refine r_sipush (pc := 3) C d_M_sweep_3 (v := 128) (by decide) ?_
      refine r_icmp_ge (tgt := 80) (pc := 6) C d_M_sweep_6 (by decide) ?_ ?_
      · intro hc; replace h := h.1 hc
        refine r_sub [0] rfl ?_
        exact hk l1 μ h
      · intro hc; replace h := h.2 hc
        refine r_aload_n (pc := 9) C d_M_sweep_9 rfl 0 rfl ?_
        refine r_iload_n (pc := 10) C d_M_sweep_10 rfl 1 rfl ?_
        refine r_cVi (pc := 11) (a' := 0) (b' := 0) (As := [.inl l1]) (ci := 6) C (c_M_objectAt C.s h) o_M_objectAt rfl (lay_O rfl) (k_859 C.w) rfl ⟨by decide, by decide, by decide, by decide⟩ rfl rfl (Nat.le_of_ble_eq_true rfl) d_M_sweep_11 rfl ?_
        intro r2 μ1 h
        refine r_istore_n (pc := 14) (lv' := [(0, .inr (.inl (some 17))), (1, .inl l1)]) C d_M_sweep_14 rfl (by decide) rfl ?_
        refine r_iconst (pc := 15) C d_M_sweep_15 (v := 0) (by decide) ?_
        refine r_istore_n (pc := 16) (lv' := [(2, .inl r2), (0, .inr (.inl (some 17))), (1, .inl l1)]) C d_M_sweep_16 rfl (by decide) rfl ?_
        obtain ⟨n12, h⟩ := h
        refine r_sub [2, 3, 1, 0] rfl ?_
        refine L_17 r2 l1 _ ?_ n12 0 μ1 h
        intro v11 μ10 h
        refine r_iinc (pc := 74) (v := 1) (lv' := [(0, .inr (.inl (some 17)))]) C d_M_sweep_74 1 rfl (by decide) (by decide) rfl ?_
        refine r_goto (tgt := 2) (pc := 77) C d_M_sweep_77 (by decide) ?_
        refine r_sub [1, 0] rfl ?_
        exact ih (l1 + 1) μ10 h
  have L_82 : ∀ (k : Int32 → Mem → Prop), (∀ (v1 : Int32) (μ : Mem), k v1 μ → Rn K G 5 118 [] [] μ 0 0) → ∀ (n : Nat) (l1 : Int32) (μ : Mem), wM_sweep_82 k n l1 μ → Rn K G 5 82 [(0, .inr (.inl (some 17))), (1, .inl l1)] [] μ 0 0 := by
    intro k hk n
    induction n with
    | zero => intro l1 μ h; exact h.elim
    | succ n ih =>
      intro l1 μ h
      unfold wM_sweep_82 at h
      refine r_iload_n (pc := 82) C d_M_sweep_82 rfl 1 rfl ?_
      refine r_sipush (pc := 83) C d_M_sweep_83 (v := 256) (by decide) ?_
      refine r_icmp_ge (tgt := 118) (pc := 86) C d_M_sweep_86 (by decide) ?_ ?_
      · intro hc; replace h := h.1 hc
        refine r_sub [] rfl ?_
        exact hk l1 μ h
      · intro hc; replace h := h.2 hc
        refine r_aload_n (pc := 89) C d_M_sweep_89 rfl 0 rfl ?_
        refine r_iload_n (pc := 90) C d_M_sweep_90 rfl 1 rfl ?_
        refine r_cVi (pc := 91) (a' := 0) (b' := 0) (As := [.inl l1]) (ci := 6) C (c_M_isWhite C.s h) o_M_isWhite rfl (lay_O rfl) (k_807 C.w) rfl ⟨by decide, by decide, by decide, by decide⟩ rfl rfl (Nat.le_of_ble_eq_true rfl) d_M_sweep_91 rfl ?_
        intro r16 μ15 h
        refine r_if_eq (tgt := 112) (pc := 94) C d_M_sweep_94 (by decide) ?_ ?_
        · intro hc; replace h := h.1 hc
          refine r_iinc (pc := 112) (v := 1) (lv' := [(0, .inr (.inl (some 17)))]) C d_M_sweep_112 1 rfl (by decide) (by decide) rfl ?_
          refine r_goto (tgt := 82) (pc := 115) C d_M_sweep_115 (by decide) ?_
          refine r_sub [1, 0] rfl ?_
          exact ih (l1 + 1) μ15 h
        · intro hc; replace h := h.2 hc
          refine r_aload_n (pc := 97) C d_M_sweep_97 rfl 0 rfl ?_
          refine r_iload_n (pc := 98) C d_M_sweep_98 rfl 1 rfl ?_
          refine r_cVv (pc := 99) (a' := 0) (b' := 0) (As := [.inl l1]) (ci := 6) C (c_M_lose C.s h) o_M_lose rfl (lay_O rfl) (k_811 C.w) rfl ⟨by decide, by decide, by decide, by decide⟩ rfl rfl (Nat.le_of_ble_eq_true rfl) d_M_sweep_99 rfl ?_
          intro μ17 h
          refine r_aload_n (pc := 102) C d_M_sweep_102 rfl 0 rfl ?_
          refine r_dupR (pc := 103) C d_M_sweep_103 ?_
          refine r_getI (pc := 104) (ci := 6) C rfl 30 (by decide) (k_680 C.w) rfl (lay_O rfl) d_M_sweep_104 ?_
          refine r_iconst (pc := 107) C d_M_sweep_107 (v := 1) (by decide) ?_
          refine r_iadd (pc := 108) C d_M_sweep_108 ?_
          refine r_putI (pc := 109) (ci := 6) C rfl 30 (by decide) (k_680 C.w) rfl rfl p_I (lay_O rfl) d_M_sweep_109 ?_
          intro μ18 eμ18; replace h := h μ18 eμ18
          refine r_iinc (pc := 112) (v := 1) (lv' := [(0, .inr (.inl (some 17)))]) C d_M_sweep_112 1 rfl (by decide) (by decide) rfl ?_
          refine r_goto (tgt := 82) (pc := 115) C d_M_sweep_115 (by decide) ?_
          refine r_sub [1, 0] rfl ?_
          exact ih (l1 + 1) μ18 h
  unfold wM_sweep at h
  refine r_iconst (pc := 0) C d_M_sweep_0 (v := 0) (by decide) ?_
  refine r_istore_n (pc := 1) (lv' := [(0, .inr (.inl (some 17)))]) C d_M_sweep_1 rfl (by decide) rfl ?_
  obtain ⟨n22, h⟩ := h
  refine r_sub [1, 0] rfl ?_
  refine L_2 _ ?_ n22 0 μ h
  intro v14 μ13 h
  refine r_iconst (pc := 80) C d_M_sweep_80 (v := 0) (by decide) ?_
  refine r_istore_n (pc := 81) (lv' := [(0, .inr (.inl (some 17)))]) C d_M_sweep_81 rfl (by decide) rfl ?_
  obtain ⟨n21, h⟩ := h
  refine r_sub [1, 0] rfl ?_
  refine L_82 _ ?_ n21 0 μ13 h
  intro v20 μ19 h
  exact r_vret (pc := 118) C d_M_sweep_118 (by decide) (by decide) h
theorem c_M_holders {l : Launch} (hl : l.stackTraces = false) {G : Gl} {a1 : Int32} {post : Int32 → Mem → Prop} {μ : Mem} (h : wM_holders a1 post μ) : Ct l G i_M_holders [.inr (.inl (some 17)), .inl a1] μ (poI post) noX := by
  refine ct_of hl (by decide) (Nat.le_of_ble_eq_true rfl) ?_
  intro K hKl C hE
  clear hl hKl
  replace C : Cx K G prog_8_method_31_code "LineCollectorModel" 5 { frames := 0, cells := 0, slots := 0, locals := 0 } (some .int) (poI post) noX := C
  show Rn K G 5 0 [(0, .inr (.inl (some 17))), (1, .inl a1)] [] μ 0 0
  have L_4 : ∀ (l1 : Int32) (k : Int32 → Int32 → Mem → Prop), (∀ (v2 : Int32) (v3 : Int32) (μ : Mem), k v2 v3 μ → Rn K G 5 34 [(0, .inr (.inl (some 17))), (1, .inl l1), (2, .inl v2)] [] μ 0 0) → ∀ (n : Nat) (l2 : Int32) (l3 : Int32) (μ : Mem), wM_holders_4 l1 k n l2 l3 μ → Rn K G 5 4 [(0, .inr (.inl (some 17))), (1, .inl l1), (2, .inl l2), (3, .inl l3)] [] μ 0 0 := by
    intro l1 k hk n
    induction n with
    | zero => intro l2 l3 μ h; exact h.elim
    | succ n ih =>
      intro l2 l3 μ h
      unfold wM_holders_4 at h
      refine r_iload_n (pc := 4) C d_M_holders_4 rfl 3 rfl ?_
      refine r_bipush (pc := 5) C d_M_holders_5 (v := 6) (by decide) ?_
      refine r_icmp_ge (tgt := 34) (pc := 7) C d_M_holders_7 (by decide) ?_ ?_
      · intro hc; replace h := h.1 hc
        refine r_sub [0, 1, 2] rfl ?_
        exact hk l2 l3 μ h
      · intro hc; replace h := h.2 hc
        refine r_aload_n (pc := 10) C d_M_holders_10 rfl 0 rfl ?_
        refine r_getR (pc := 11) (ci := 6) C rfl 11 (by decide) (k_661 C.w) rfl (lay_O rfl) d_M_holders_11 ?_
        refine r_iload_n (pc := 14) C d_M_holders_14 rfl 3 rfl ?_
        obtain ⟨b1, h⟩ := h
        refine r_iald (pc := 15) C (lay_A rfl) b1 d_M_holders_15 ?_
        refine r_iload_n (pc := 16) C d_M_holders_16 rfl 1 rfl ?_
        refine r_icmp_ne (tgt := 26) (pc := 17) C d_M_holders_17 (by decide) ?_ ?_
        · intro hc; replace h := h.2 hc
          refine r_iload_n (pc := 26) C d_M_holders_26 rfl 2 rfl ?_
          refine r_istore_n (pc := 27) (lv' := [(0, .inr (.inl (some 17))), (1, .inl l1), (3, .inl l3)]) C d_M_holders_27 rfl (by decide) rfl ?_
          refine r_iinc (pc := 28) (v := 1) (lv' := [(2, .inl l2), (0, .inr (.inl (some 17))), (1, .inl l1)]) C d_M_holders_28 3 rfl (by decide) (by decide) rfl ?_
          refine r_goto (tgt := 4) (pc := 31) C d_M_holders_31 (by decide) ?_
          refine r_sub [2, 3, 1, 0] rfl ?_
          exact ih l2 (l3 + 1) μ h
        · intro hc; replace h := h.1 hc
          refine r_iload_n (pc := 20) C d_M_holders_20 rfl 2 rfl ?_
          refine r_iconst (pc := 21) C d_M_holders_21 (v := 1) (by decide) ?_
          refine r_iadd (pc := 22) C d_M_holders_22 ?_
          refine r_goto (tgt := 27) (pc := 23) C d_M_holders_23 (by decide) ?_
          refine r_istore_n (pc := 27) (lv' := [(0, .inr (.inl (some 17))), (1, .inl l1), (3, .inl l3)]) C d_M_holders_27 rfl (by decide) rfl ?_
          refine r_iinc (pc := 28) (v := 1) (lv' := [(2, .inl (l2 + 1)), (0, .inr (.inl (some 17))), (1, .inl l1)]) C d_M_holders_28 3 rfl (by decide) (by decide) rfl ?_
          refine r_goto (tgt := 4) (pc := 31) C d_M_holders_31 (by decide) ?_
          refine r_sub [2, 3, 1, 0] rfl ?_
          exact ih (l2 + 1) (l3 + 1) μ h
  have L_46 : ∀ (l1 : Int32) (l3 : Int32) (k : Int32 → Int32 → Mem → Prop), (∀ (v2 : Int32) (v4 : Int32) (μ : Mem), k v2 v4 μ → Rn K G 5 96 [(0, .inr (.inl (some 17))), (1, .inl l1), (2, .inl v2), (3, .inl l3)] [] μ 0 0) → ∀ (n : Nat) (l2 : Int32) (l4 : Int32) (μ : Mem), wM_holders_46 l1 l3 k n l2 l4 μ → Rn K G 5 46 [(0, .inr (.inl (some 17))), (1, .inl l1), (2, .inl l2), (3, .inl l3), (4, .inl l4)] [] μ 0 0 := by
    intro l1 l3 k hk n
    induction n with
    | zero => intro l2 l4 μ h; exact h.elim
    | succ n ih =>
      intro l2 l4 μ h
      unfold wM_holders_46 at h
      refine r_aload_n (pc := 46) C d_M_holders_46 rfl 0 rfl ?_
      refine r_getR (pc := 47) (ci := 6) C rfl 2 (by decide) (k_652 C.w) rfl (lay_O rfl) d_M_holders_47 ?_
      refine r_iload_n (pc := 50) C d_M_holders_50 rfl 3 rfl ?_
      obtain ⟨b5, h⟩ := h
      refine r_iald (pc := 51) C (lay_A rfl) b5 d_M_holders_51 ?_
      refine r_if_eq (tgt := 96) (pc := 52) C d_M_holders_52 (by decide) ?_ ?_
      · intro hc; replace h := h.1 hc
        refine r_sub [0, 1, 2, 3] rfl ?_
        exact hk l2 l4 μ h
      · intro hc; replace h := h.2 hc
        refine r_iload (pc := 55) C d_M_holders_55 4 rfl ?_
        refine r_aload_n (pc := 57) C d_M_holders_57 rfl 0 rfl ?_
        refine r_getR (pc := 58) (ci := 6) C rfl 4 (by decide) (k_654 C.w) rfl (lay_O rfl) d_M_holders_58 ?_
        refine r_iload_n (pc := 61) C d_M_holders_61 rfl 3 rfl ?_
        refine r_iald (pc := 62) C (lay_A rfl) b5 d_M_holders_62 ?_
        refine r_icmp_ge (tgt := 96) (pc := 63) C d_M_holders_63 (by decide) ?_ ?_
        · intro hc; replace h := h.1 hc
          refine r_sub [0, 1, 2, 3] rfl ?_
          exact hk l2 l4 μ h
        · intro hc; replace h := h.2 hc
          refine r_aload_n (pc := 66) C d_M_holders_66 rfl 0 rfl ?_
          refine r_getR (pc := 67) (ci := 6) C rfl 8 (by decide) (k_658 C.w) rfl (lay_O rfl) d_M_holders_67 ?_
          refine r_bipush (pc := 70) C d_M_holders_70 (v := 12) (by decide) ?_
          refine r_iload_n (pc := 72) C d_M_holders_72 rfl 3 rfl ?_
          refine r_imul (pc := 73) C d_M_holders_73 ?_
          refine r_iload (pc := 74) C d_M_holders_74 4 rfl ?_
          refine r_iadd (pc := 76) C d_M_holders_76 ?_
          obtain ⟨b6, h⟩ := h
          refine r_iald (pc := 77) C (lay_A rfl) b6 d_M_holders_77 ?_
          refine r_iload_n (pc := 78) C d_M_holders_78 rfl 1 rfl ?_
          refine r_icmp_ne (tgt := 88) (pc := 79) C d_M_holders_79 (by decide) ?_ ?_
          · intro hc; replace h := h.2 hc
            refine r_iload_n (pc := 88) C d_M_holders_88 rfl 2 rfl ?_
            refine r_istore_n (pc := 89) (lv' := [(0, .inr (.inl (some 17))), (1, .inl l1), (3, .inl l3), (4, .inl l4)]) C d_M_holders_89 rfl (by decide) rfl ?_
            refine r_iinc (pc := 90) (v := 1) (lv' := [(2, .inl l2), (0, .inr (.inl (some 17))), (1, .inl l1), (3, .inl l3)]) C d_M_holders_90 4 rfl (by decide) (by decide) rfl ?_
            refine r_goto (tgt := 46) (pc := 93) C d_M_holders_93 (by decide) ?_
            refine r_sub [2, 3, 1, 4, 0] rfl ?_
            exact ih l2 (l4 + 1) μ h
          · intro hc; replace h := h.1 hc
            refine r_iload_n (pc := 82) C d_M_holders_82 rfl 2 rfl ?_
            refine r_iconst (pc := 83) C d_M_holders_83 (v := 1) (by decide) ?_
            refine r_iadd (pc := 84) C d_M_holders_84 ?_
            refine r_goto (tgt := 89) (pc := 85) C d_M_holders_85 (by decide) ?_
            refine r_istore_n (pc := 89) (lv' := [(0, .inr (.inl (some 17))), (1, .inl l1), (3, .inl l3), (4, .inl l4)]) C d_M_holders_89 rfl (by decide) rfl ?_
            refine r_iinc (pc := 90) (v := 1) (lv' := [(2, .inl (l2 + 1)), (0, .inr (.inl (some 17))), (1, .inl l1), (3, .inl l3)]) C d_M_holders_90 4 rfl (by decide) (by decide) rfl ?_
            refine r_goto (tgt := 46) (pc := 93) C d_M_holders_93 (by decide) ?_
            refine r_sub [2, 3, 1, 4, 0] rfl ?_
            exact ih (l2 + 1) (l4 + 1) μ h
  have L_36 : ∀ (l1 : Int32) (k : Int32 → Int32 → Mem → Prop), (∀ (v2 : Int32) (v3 : Int32) (μ : Mem), k v2 v3 μ → Rn K G 5 102 [(0, .inr (.inl (some 17))), (1, .inl l1), (2, .inl v2)] [] μ 0 0) → ∀ (n : Nat) (l2 : Int32) (l3 : Int32) (μ : Mem), wM_holders_36 l1 k n l2 l3 μ → Rn K G 5 36 [(0, .inr (.inl (some 17))), (1, .inl l1), (2, .inl l2), (3, .inl l3)] [] μ 0 0 := by
    intro l1 k hk n
    induction n with
    | zero => intro l2 l3 μ h; exact h.elim
    | succ n ih =>
      intro l2 l3 μ h
      unfold wM_holders_36 at h
      refine r_iload_n (pc := 36) C d_M_holders_36 rfl 3 rfl ?_
      refine r_sipush (pc := 37) C d_M_holders_37 (v := 256) (by decide) ?_
      refine r_icmp_ge (tgt := 102) (pc := 40) C d_M_holders_40 (by decide) ?_ ?_
      · intro hc; replace h := h.1 hc
        refine r_sub [0, 1, 2] rfl ?_
        exact hk l2 l3 μ h
      · intro hc; replace h := h.2 hc
        refine r_iconst (pc := 43) C d_M_holders_43 (v := 0) (by decide) ?_
        refine r_istore (pc := 44) (lv' := [(0, .inr (.inl (some 17))), (1, .inl l1), (2, .inl l2), (3, .inl l3)]) C d_M_holders_44 (by decide) rfl ?_
        obtain ⟨n10, h⟩ := h
        refine r_sub [1, 2, 3, 4, 0] rfl ?_
        refine L_46 l1 l3 _ ?_ n10 l2 0 μ h
        intro v8 v9 μ7 h
        refine r_iinc (pc := 96) (v := 1) (lv' := [(0, .inr (.inl (some 17))), (1, .inl l1), (2, .inl v8)]) C d_M_holders_96 3 rfl (by decide) (by decide) rfl ?_
        refine r_goto (tgt := 36) (pc := 99) C d_M_holders_99 (by decide) ?_
        refine r_sub [1, 2, 3, 0] rfl ?_
        exact ih v8 (l3 + 1) μ7 h
  have L_104 : ∀ (l1 : Int32) (k : Int32 → Int32 → Mem → Prop), (∀ (v2 : Int32) (v3 : Int32) (μ : Mem), k v2 v3 μ → Rn K G 5 136 [(2, .inl v2)] [] μ 0 0) → ∀ (n : Nat) (l2 : Int32) (l3 : Int32) (μ : Mem), wM_holders_104 l1 k n l2 l3 μ → Rn K G 5 104 [(0, .inr (.inl (some 17))), (1, .inl l1), (2, .inl l2), (3, .inl l3)] [] μ 0 0 := by
    intro l1 k hk n
    induction n with
    | zero => intro l2 l3 μ h; exact h.elim
    | succ n ih =>
      intro l2 l3 μ h
      unfold wM_holders_104 at h
      refine r_iload_n (pc := 104) C d_M_holders_104 rfl 3 rfl ?_
      refine r_aload_n (pc := 105) C d_M_holders_105 rfl 0 rfl ?_
      refine r_getI (pc := 106) (ci := 6) C rfl 21 (by decide) (k_671 C.w) rfl (lay_O rfl) d_M_holders_106 ?_
      refine r_icmp_ge (tgt := 136) (pc := 109) C d_M_holders_109 (by decide) ?_ ?_
      · intro hc; replace h := h.1 hc
        refine r_sub [2] rfl ?_
        exact hk l2 l3 μ h
      · intro hc; replace h := h.2 hc
        refine r_aload_n (pc := 112) C d_M_holders_112 rfl 0 rfl ?_
        refine r_getR (pc := 113) (ci := 6) C rfl 20 (by decide) (k_670 C.w) rfl (lay_O rfl) d_M_holders_113 ?_
        refine r_iload_n (pc := 116) C d_M_holders_116 rfl 3 rfl ?_
        obtain ⟨b14, h⟩ := h
        refine r_iald (pc := 117) C (lay_A rfl) b14 d_M_holders_117 ?_
        refine r_iload_n (pc := 118) C d_M_holders_118 rfl 1 rfl ?_
        refine r_icmp_ne (tgt := 128) (pc := 119) C d_M_holders_119 (by decide) ?_ ?_
        · intro hc; replace h := h.2 hc
          refine r_iload_n (pc := 128) C d_M_holders_128 rfl 2 rfl ?_
          refine r_istore_n (pc := 129) (lv' := [(0, .inr (.inl (some 17))), (1, .inl l1), (3, .inl l3)]) C d_M_holders_129 rfl (by decide) rfl ?_
          refine r_iinc (pc := 130) (v := 1) (lv' := [(2, .inl l2), (0, .inr (.inl (some 17))), (1, .inl l1)]) C d_M_holders_130 3 rfl (by decide) (by decide) rfl ?_
          refine r_goto (tgt := 104) (pc := 133) C d_M_holders_133 (by decide) ?_
          refine r_sub [2, 3, 1, 0] rfl ?_
          exact ih l2 (l3 + 1) μ h
        · intro hc; replace h := h.1 hc
          refine r_iload_n (pc := 122) C d_M_holders_122 rfl 2 rfl ?_
          refine r_iconst (pc := 123) C d_M_holders_123 (v := 1) (by decide) ?_
          refine r_iadd (pc := 124) C d_M_holders_124 ?_
          refine r_goto (tgt := 129) (pc := 125) C d_M_holders_125 (by decide) ?_
          refine r_istore_n (pc := 129) (lv' := [(0, .inr (.inl (some 17))), (1, .inl l1), (3, .inl l3)]) C d_M_holders_129 rfl (by decide) rfl ?_
          refine r_iinc (pc := 130) (v := 1) (lv' := [(2, .inl (l2 + 1)), (0, .inr (.inl (some 17))), (1, .inl l1)]) C d_M_holders_130 3 rfl (by decide) (by decide) rfl ?_
          refine r_goto (tgt := 104) (pc := 133) C d_M_holders_133 (by decide) ?_
          refine r_sub [2, 3, 1, 0] rfl ?_
          exact ih (l2 + 1) (l3 + 1) μ h
  unfold wM_holders at h
  refine r_iconst (pc := 0) C d_M_holders_0 (v := 0) (by decide) ?_
  refine r_istore_n (pc := 1) (lv' := [(0, .inr (.inl (some 17))), (1, .inl a1)]) C d_M_holders_1 rfl (by decide) rfl ?_
  refine r_iconst (pc := 2) C d_M_holders_2 (v := 0) (by decide) ?_
  refine r_istore_n (pc := 3) (lv' := [(2, .inl 0), (0, .inr (.inl (some 17))), (1, .inl a1)]) C d_M_holders_3 rfl (by decide) rfl ?_
  obtain ⟨n20, h⟩ := h
  refine r_sub [2, 3, 1, 0] rfl ?_
  refine L_4 a1 _ ?_ n20 0 0 μ h
  intro v3 v4 μ2 h
  refine r_iconst (pc := 34) C d_M_holders_34 (v := 0) (by decide) ?_
  refine r_istore_n (pc := 35) (lv' := [(0, .inr (.inl (some 17))), (1, .inl a1), (2, .inl v3)]) C d_M_holders_35 rfl (by decide) rfl ?_
  obtain ⟨n19, h⟩ := h
  refine r_sub [1, 2, 3, 0] rfl ?_
  refine L_36 a1 _ ?_ n19 v3 0 μ2 h
  intro v12 v13 μ11 h
  refine r_iconst (pc := 102) C d_M_holders_102 (v := 0) (by decide) ?_
  refine r_istore_n (pc := 103) (lv' := [(0, .inr (.inl (some 17))), (1, .inl a1), (2, .inl v12)]) C d_M_holders_103 rfl (by decide) rfl ?_
  obtain ⟨n18, h⟩ := h
  refine r_sub [1, 2, 3, 0] rfl ?_
  refine L_104 a1 _ ?_ n18 v12 0 μ11 h
  intro v16 v17 μ15 h
  refine r_iload_n (pc := 136) C d_M_holders_136 rfl 0 rfl ?_
  exact r_iret (pc := 137) C d_M_holders_137 (by decide) (by decide) h
theorem c_M_countAnew {l : Launch} (hl : l.stackTraces = false) {G : Gl} {post : Mem → Prop} {μ : Mem} (h : wM_countAnew post μ) : Ct l G i_M_countAnew [.inr (.inl (some 17))] μ (poV post) noX := by
  refine ct_of hl (by decide) (Nat.le_of_ble_eq_true rfl) ?_
  intro K hKl C hE
  clear hl hKl
  replace C : Cx K G prog_8_method_32_code "LineCollectorModel" 4 { frames := 3, cells := 0, slots := 0, locals := 67 } (none) (poV post) noX := C
  show Rn K G 4 0 [(0, .inr (.inl (some 17)))] [] μ 0 0
  have L_2 : ∀ (k : Int32 → Mem → Prop), (∀ (v1 : Int32) (μ : Mem), k v1 μ → Rn K G 4 66 [(0, .inr (.inl (some 17)))] [] μ 0 0) → ∀ (n : Nat) (l1 : Int32) (μ : Mem), wM_countAnew_2 k n l1 μ → Rn K G 4 2 [(0, .inr (.inl (some 17))), (1, .inl l1)] [] μ 0 0 := by
    intro k hk n
    induction n with
    | zero => intro l1 μ h; exact h.elim
    | succ n ih =>
      intro l1 μ h
      unfold wM_countAnew_2 at h
      refine r_iload_n (pc := 2) C d_M_countAnew_2 rfl 1 rfl ?_
      refine r_sipush (pc := 3) C d_M_countAnew_3 (v := 128) (by decide) ?_
      refine r_icmp_ge (tgt := 66) (pc := 6) C d_M_countAnew_6 (by decide) ?_ ?_
      · intro hc; replace h := h.1 hc
        refine r_sub [0] rfl ?_
        exact hk l1 μ h
      · intro hc; replace h := h.2 hc
        refine r_aload_n (pc := 9) C d_M_countAnew_9 rfl 0 rfl ?_
        refine r_iload_n (pc := 10) C d_M_countAnew_10 rfl 1 rfl ?_
        refine r_cVi (pc := 11) (a' := 0) (b' := 0) (As := [.inl l1]) (ci := 6) C (c_M_objectAt C.s h) o_M_objectAt rfl (lay_O rfl) (k_859 C.w) rfl ⟨by decide, by decide, by decide, by decide⟩ rfl rfl (Nat.le_of_ble_eq_true rfl) d_M_countAnew_11 rfl ?_
        intro r2 μ1 h
        refine r_istore_n (pc := 14) (lv' := [(0, .inr (.inl (some 17))), (1, .inl l1)]) C d_M_countAnew_14 rfl (by decide) rfl ?_
        refine r_iload_n (pc := 15) C d_M_countAnew_15 rfl 0 rfl ?_
        refine r_if_lt (tgt := 60) (pc := 16) C d_M_countAnew_16 (by decide) ?_ ?_
        · intro hc; replace h := h.1 hc
          refine r_iinc (pc := 60) (v := 1) (lv' := [(2, .inl r2), (0, .inr (.inl (some 17)))]) C d_M_countAnew_60 2 rfl (by decide) (by decide) rfl ?_
          refine r_goto (tgt := 2) (pc := 63) C d_M_countAnew_63 (by decide) ?_
          refine r_sub [2, 0] rfl ?_
          exact ih (l1 + 1) μ1 h
        · intro hc; replace h := h.2 hc
          refine r_aload_n (pc := 19) C d_M_countAnew_19 rfl 1 rfl ?_
          refine r_getR (pc := 20) (ci := 6) C rfl 6 (by decide) (k_656 C.w) rfl (lay_O rfl) d_M_countAnew_20 ?_
          refine r_iload_n (pc := 23) C d_M_countAnew_23 rfl 0 rfl ?_
          obtain ⟨b3, h⟩ := h
          refine r_iald (pc := 24) C (lay_A rfl) b3 d_M_countAnew_24 ?_
          refine r_iconst (pc := 25) C d_M_countAnew_25 (v := 3) (by decide) ?_
          refine r_icmp_ne (tgt := 60) (pc := 26) C d_M_countAnew_26 (by decide) ?_ ?_
          · intro hc; replace h := h.2 hc
            refine r_iinc (pc := 60) (v := 1) (lv' := [(2, .inl r2), (0, .inr (.inl (some 17)))]) C d_M_countAnew_60 2 rfl (by decide) (by decide) rfl ?_
            refine r_goto (tgt := 2) (pc := 63) C d_M_countAnew_63 (by decide) ?_
            refine r_sub [2, 0] rfl ?_
            exact ih (l1 + 1) μ1 h
          · intro hc; replace h := h.1 hc
            refine r_aload_n (pc := 29) C d_M_countAnew_29 rfl 1 rfl ?_
            refine r_iload_n (pc := 30) C d_M_countAnew_30 rfl 0 rfl ?_
            refine r_cVi (pc := 31) (a' := 0) (b' := 0) (As := [.inl r2]) (ci := 6) C (c_M_holders C.s h) o_M_holders rfl (lay_O rfl) (k_867 C.w) rfl ⟨by decide, by decide, by decide, by decide⟩ rfl rfl (Nat.le_of_ble_eq_true rfl) d_M_countAnew_31 rfl ?_
            intro r5 μ4 h
            refine r_istore_n (pc := 34) (lv' := [(2, .inl r2), (0, .inr (.inl (some 17))), (1, .inl l1)]) C d_M_countAnew_34 rfl (by decide) rfl ?_
            refine r_aload_n (pc := 35) C d_M_countAnew_35 rfl 2 rfl ?_
            refine r_getR (pc := 36) (ci := 6) C rfl 6 (by decide) (k_656 C.w) rfl (lay_O rfl) d_M_countAnew_36 ?_
            refine r_iload_n (pc := 39) C d_M_countAnew_39 rfl 1 rfl ?_
            refine r_iload_n (pc := 40) C d_M_countAnew_40 rfl 0 rfl ?_
            refine r_iconst (pc := 41) C d_M_countAnew_41 (v := 3) (by decide) ?_
            refine r_icmp_ge (tgt := 49) (pc := 42) C d_M_countAnew_42 (by decide) ?_ ?_
            · intro hc; replace h := h.1 hc
              refine r_iconst (pc := 49) C d_M_countAnew_49 (v := 3) (by decide) ?_
              obtain ⟨b6, h⟩ := h
              refine r_iast (pc := 50) C (lay_A rfl) b6 d_M_countAnew_50 ?_
              intro μ7 eμ7; replace h := h μ7 eμ7
              refine r_iload_n (pc := 51) C d_M_countAnew_51 rfl 0 rfl ?_
              refine r_if_ne (tgt := 60) (pc := 52) C d_M_countAnew_52 (by decide) ?_ ?_
              · intro hc; replace h := h.2 hc
                refine r_iinc (pc := 60) (v := 1) (lv' := [(3, .inl r5), (2, .inl r2), (0, .inr (.inl (some 17)))]) C d_M_countAnew_60 3 rfl (by decide) (by decide) rfl ?_
                refine r_goto (tgt := 2) (pc := 63) C d_M_countAnew_63 (by decide) ?_
                refine r_sub [3, 0] rfl ?_
                exact ih (l1 + 1) μ7 h
              · intro hc; replace h := h.1 hc
                refine r_aload_n (pc := 55) C d_M_countAnew_55 rfl 2 rfl ?_
                refine r_iload_n (pc := 56) C d_M_countAnew_56 rfl 1 rfl ?_
                refine r_cVv (pc := 57) (a' := 0) (b' := 0) (As := [.inl r2]) (ci := 6) C (c_M_vanish C.s h) o_M_vanish rfl (lay_O rfl) (k_799 C.w) rfl ⟨by decide, by decide, by decide, by decide⟩ rfl rfl (Nat.le_of_ble_eq_true rfl) d_M_countAnew_57 rfl ?_
                intro μ8 h
                refine r_iinc (pc := 60) (v := 1) (lv' := [(3, .inl r5), (2, .inl r2), (0, .inr (.inl (some 17)))]) C d_M_countAnew_60 3 rfl (by decide) (by decide) rfl ?_
                refine r_goto (tgt := 2) (pc := 63) C d_M_countAnew_63 (by decide) ?_
                refine r_sub [3, 0] rfl ?_
                exact ih (l1 + 1) μ8 h
            · intro hc; replace h := h.2 hc
              refine r_iload_n (pc := 45) C d_M_countAnew_45 rfl 0 rfl ?_
              refine r_goto (tgt := 50) (pc := 46) C d_M_countAnew_46 (by decide) ?_
              obtain ⟨b9, h⟩ := h
              refine r_iast (pc := 50) C (lay_A rfl) b9 d_M_countAnew_50 ?_
              intro μ10 eμ10; replace h := h μ10 eμ10
              refine r_iload_n (pc := 51) C d_M_countAnew_51 rfl 0 rfl ?_
              refine r_if_ne (tgt := 60) (pc := 52) C d_M_countAnew_52 (by decide) ?_ ?_
              · intro hc; replace h := h.2 hc
                refine r_iinc (pc := 60) (v := 1) (lv' := [(3, .inl r5), (2, .inl r2), (0, .inr (.inl (some 17)))]) C d_M_countAnew_60 3 rfl (by decide) (by decide) rfl ?_
                refine r_goto (tgt := 2) (pc := 63) C d_M_countAnew_63 (by decide) ?_
                refine r_sub [3, 0] rfl ?_
                exact ih (l1 + 1) μ10 h
              · intro hc; replace h := h.1 hc
                refine r_aload_n (pc := 55) C d_M_countAnew_55 rfl 2 rfl ?_
                refine r_iload_n (pc := 56) C d_M_countAnew_56 rfl 1 rfl ?_
                refine r_cVv (pc := 57) (a' := 0) (b' := 0) (As := [.inl r2]) (ci := 6) C (c_M_vanish C.s h) o_M_vanish rfl (lay_O rfl) (k_799 C.w) rfl ⟨by decide, by decide, by decide, by decide⟩ rfl rfl (Nat.le_of_ble_eq_true rfl) d_M_countAnew_57 rfl ?_
                intro μ11 h
                refine r_iinc (pc := 60) (v := 1) (lv' := [(3, .inl r5), (2, .inl r2), (0, .inr (.inl (some 17)))]) C d_M_countAnew_60 3 rfl (by decide) (by decide) rfl ?_
                refine r_goto (tgt := 2) (pc := 63) C d_M_countAnew_63 (by decide) ?_
                refine r_sub [3, 0] rfl ?_
                exact ih (l1 + 1) μ11 h
  have L_68 : ∀ (k : Int32 → Mem → Prop), (∀ (v1 : Int32) (μ : Mem), k v1 μ → Rn K G 4 88 [] [] μ 0 0) → ∀ (n : Nat) (l1 : Int32) (μ : Mem), wM_countAnew_68 k n l1 μ → Rn K G 4 68 [(0, .inr (.inl (some 17))), (1, .inl l1)] [] μ 0 0 := by
    intro k hk n
    induction n with
    | zero => intro l1 μ h; exact h.elim
    | succ n ih =>
      intro l1 μ h
      unfold wM_countAnew_68 at h
      refine r_iload_n (pc := 68) C d_M_countAnew_68 rfl 1 rfl ?_
      refine r_sipush (pc := 69) C d_M_countAnew_69 (v := 256) (by decide) ?_
      refine r_icmp_ge (tgt := 88) (pc := 72) C d_M_countAnew_72 (by decide) ?_ ?_
      · intro hc; replace h := h.1 hc
        refine r_sub [] rfl ?_
        exact hk l1 μ h
      · intro hc; replace h := h.2 hc
        refine r_aload_n (pc := 75) C d_M_countAnew_75 rfl 0 rfl ?_
        refine r_getR (pc := 76) (ci := 6) C rfl 7 (by decide) (k_657 C.w) rfl (lay_O rfl) d_M_countAnew_76 ?_
        refine r_iload_n (pc := 79) C d_M_countAnew_79 rfl 1 rfl ?_
        refine r_iconst (pc := 80) C d_M_countAnew_80 (v := 0) (by decide) ?_
        obtain ⟨b14, h⟩ := h
        refine r_iast (pc := 81) C (lay_A rfl) b14 d_M_countAnew_81 ?_
        intro μ15 eμ15; replace h := h μ15 eμ15
        refine r_iinc (pc := 82) (v := 1) (lv' := [(0, .inr (.inl (some 17)))]) C d_M_countAnew_82 1 rfl (by decide) (by decide) rfl ?_
        refine r_goto (tgt := 68) (pc := 85) C d_M_countAnew_85 (by decide) ?_
        refine r_sub [1, 0] rfl ?_
        exact ih (l1 + 1) μ15 h
  unfold wM_countAnew at h
  refine r_iconst (pc := 0) C d_M_countAnew_0 (v := 0) (by decide) ?_
  refine r_istore_n (pc := 1) (lv' := [(0, .inr (.inl (some 17)))]) C d_M_countAnew_1 rfl (by decide) rfl ?_
  obtain ⟨n19, h⟩ := h
  refine r_sub [1, 0] rfl ?_
  refine L_2 _ ?_ n19 0 μ h
  intro v13 μ12 h
  refine r_iconst (pc := 66) C d_M_countAnew_66 (v := 0) (by decide) ?_
  refine r_istore_n (pc := 67) (lv' := [(0, .inr (.inl (some 17)))]) C d_M_countAnew_67 rfl (by decide) rfl ?_
  obtain ⟨n18, h⟩ := h
  refine r_sub [1, 0] rfl ?_
  refine L_68 _ ?_ n18 0 μ12 h
  intro v17 μ16 h
  exact r_vret (pc := 88) C d_M_countAnew_88 (by decide) (by decide) h
