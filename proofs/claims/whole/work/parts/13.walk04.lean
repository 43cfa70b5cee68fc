/-! The machine meets the predicates (written by a program) -/
theorem c_C_line {l : Launch} (hl : l.stackTraces = false) {G : Gl} {a1 : Int32} {pe : Nat → Mem → Prop} {post : Int32 → Mem → Prop} {μ : Mem} (h : wC_line a1 pe post μ) : Ct l G i_C_line [.inr (.inl (some 0)), .inl a1] μ (poI post) pe := by
  refine ct_of hl (by decide) (Nat.le_of_ble_eq_true rfl) ?_
  intro K hKl C hE
  clear hl hKl
  replace C : Cx K G prog_1_method_13_code "LineCollector" 2 { frames := 6, cells := 1, slots := 6, locals := 81 } (some .int) (poI post) pe := C
  show Rn K G 2 0 [(0, .inr (.inl (some 0))), (1, .inl a1)] [] μ 0 0
  unfold wC_line at h
  refine r_iload_n (pc := 0) C d_C_line_0 rfl 1 rfl ?_
  refine r_if_lt (tgt := 10) (pc := 1) C d_C_line_1 (by decide) ?_ ?_
  · intro hc; replace h := h.1 hc
    exact r_throw (pc := 10) C hE (q := 9) rfl (by decide +kernel) (k_536 C.w) x_ins9 x_ini9 (x_C_159) d_C_line_10 d_C_line_13 d_C_line_14 d_C_line_17 ⟨by decide, by decide, by decide, by decide⟩ h
  · intro hc; replace h := h.2 hc
    refine r_iload_n (pc := 4) C d_C_line_4 rfl 1 rfl ?_
    refine r_bipush (pc := 5) C d_C_line_5 (v := 32) (by decide) ?_
    refine r_icmp_lt (tgt := 18) (pc := 7) C d_C_line_7 (by decide) ?_ ?_
    · intro hc; replace h := h.1 hc
      refine r_aload_n (pc := 18) C d_C_line_18 rfl 0 rfl ?_
      refine r_getR (pc := 19) (ci := 0) C rfl 3 (by decide) (k_109 C.w) rfl (lay_O rfl) d_C_line_19 ?_
      refine r_iload_n (pc := 22) C d_C_line_22 rfl 1 rfl ?_
      refine r_cVi (pc := 23) (a' := 0) (b' := 0) (As := [.inl a1]) (ci := 1) C (c_P_isUsed C.s h) o_P_isUsed rfl (lay_O rfl) (k_627 C.w) rfl ⟨by decide, by decide, by decide, by decide⟩ rfl rfl (Nat.le_of_ble_eq_true rfl) d_C_line_23 rfl ?_
      intro r2 μ1 h
      refine r_if_eq (tgt := 31) (pc := 26) C d_C_line_26 (by decide) ?_ ?_
      · intro hc; replace h := h.1 hc
        refine r_aload_n (pc := 31) C d_C_line_31 rfl 0 rfl ?_
        refine r_getR (pc := 32) (ci := 0) C rfl 3 (by decide) (k_109 C.w) rfl (lay_O rfl) d_C_line_32 ?_
        refine r_iload_n (pc := 35) C d_C_line_35 rfl 1 rfl ?_
        refine r_cVi (pc := 36) (a' := 0) (b' := 0) (As := [.inl a1]) (ci := 1) C (c_P_isFree C.s h) o_P_isFree rfl (lay_O rfl) (k_628 C.w) rfl ⟨by decide, by decide, by decide, by decide⟩ rfl rfl (Nat.le_of_ble_eq_true rfl) d_C_line_36 rfl ?_
        intro r4 μ3 h
        refine r_if_eq (tgt := 46) (pc := 39) C d_C_line_39 (by decide) ?_ ?_
        · intro hc; replace h := h.1 hc
          refine r_iconst (pc := 46) C d_C_line_46 (v := 2) (by decide) ?_
          exact r_iret (pc := 47) C d_C_line_47 (by decide) (by decide) h
        · intro hc; replace h := h.2 hc
          refine r_iconst (pc := 42) C d_C_line_42 (v := 0) (by decide) ?_
          refine r_goto (tgt := 47) (pc := 43) C d_C_line_43 (by decide) ?_
          exact r_iret (pc := 47) C d_C_line_47 (by decide) (by decide) h
      · intro hc; replace h := h.2 hc
        refine r_iconst (pc := 29) C d_C_line_29 (v := 1) (by decide) ?_
        exact r_iret (pc := 30) C d_C_line_30 (by decide) (by decide) h
    · intro hc; replace h := h.2 hc
      exact r_throw (pc := 10) C hE (q := 9) rfl (by decide +kernel) (k_536 C.w) x_ins9 x_ini9 (x_C_159) d_C_line_10 d_C_line_13 d_C_line_14 d_C_line_17 ⟨by decide, by decide, by decide, by decide⟩ h
theorem c_C_countItems {l : Launch} (hl : l.stackTraces = false) {G : Gl} {post : Int32 → Mem → Prop} {μ : Mem} (h : wC_countItems post μ) : Ct l G i_C_countItems [.inr (.inl (some 0))] μ (poI post) noX := by
  refine ct_of hl (by decide) (Nat.le_of_ble_eq_true rfl) ?_
  intro K hKl C hE
  clear hl hKl
  replace C : Cx K G prog_1_method_19_code "LineCollector" 6 { frames := 0, cells := 0, slots := 0, locals := 0 } (some .int) (poI post) noX := C
  show Rn K G 6 0 [(0, .inr (.inl (some 0)))] [] μ 0 0
  have L_13 : ∀ (l3 : Int32) (k : Int32 → Int32 → Mem → Prop), (∀ (v1 : Int32) (v4 : Int32) (μ : Mem), k v1 v4 μ → Rn K G 6 39 [(1, .inl v1)] [] μ 0 0) → ∀ (n : Nat) (l1 : Int32) (l4 : Int32) (μ : Mem), wC_countItems_13 l3 k n l1 l4 μ → Rn K G 6 13 [(1, .inl l1), (2, .inr (.inl (some 3))), (3, .inl l3), (4, .inl l4)] [] μ 0 0 := by
    intro l3 k hk n
    induction n with
    | zero => intro l1 l4 μ h; exact h.elim
    | succ n ih =>
      intro l1 l4 μ h
      unfold wC_countItems_13 at h
      refine r_iload (pc := 13) C d_C_countItems_13 3 rfl ?_
      refine r_iload_n (pc := 15) C d_C_countItems_15 rfl 2 rfl ?_
      refine r_icmp_ge (tgt := 39) (pc := 16) C d_C_countItems_16 (by decide) ?_ ?_
      · intro hc; replace h := h.1 hc
        refine r_sub [0] rfl ?_
        exact hk l1 l4 μ h
      · intro hc; replace h := h.2 hc
        refine r_aload_n (pc := 19) C d_C_countItems_19 rfl 1 rfl ?_
        refine r_iload (pc := 20) C d_C_countItems_20 3 rfl ?_
        obtain ⟨b1, h⟩ := h
        refine r_aald (pc := 22) C (lay_A rfl) b1 d_C_countItems_22 ?_
        intro e2 he2; replace h := h e2 he2
        refine r_astore (pc := 23) (lv' := [(1, .inl l1), (2, .inr (.inl (some 3))), (3, .inl l3), (4, .inl l4)]) C d_C_countItems_23 (by decide) rfl ?_
        refine r_aload (pc := 25) C d_C_countItems_25 0 rfl ?_
        refine r_ifnull (tgt := 33) (pc := 27) C d_C_countItems_27 (by decide) ?_ ?_
        · intro h0; subst h0; replace h := h.1 rfl
          refine r_iinc (pc := 33) (v := 1) (lv' := [(5, .inr (.inl none)), (1, .inl l1), (2, .inr (.inl (some 3))), (3, .inl l3)]) C d_C_countItems_33 4 rfl (by decide) (by decide) rfl ?_
          refine r_goto (tgt := 13) (pc := 36) C d_C_countItems_36 (by decide) ?_
          refine r_sub [2, 3, 4, 0] rfl ?_
          exact ih l1 (l4 + 1) μ h
        · intro y3 h0; subst h0; replace h := h.2 y3 rfl
          refine r_iinc (pc := 30) (v := 1) (lv' := [(5, .inr (.inl (some y3))), (2, .inr (.inl (some 3))), (3, .inl l3), (4, .inl l4)]) C d_C_countItems_30 1 rfl (by decide) (by decide) rfl ?_
          refine r_iinc (pc := 33) (v := 1) (lv' := [(1, .inl (l1 + 1)), (5, .inr (.inl (some y3))), (2, .inr (.inl (some 3))), (3, .inl l3)]) C d_C_countItems_33 4 rfl (by decide) (by decide) rfl ?_
          refine r_goto (tgt := 13) (pc := 36) C d_C_countItems_36 (by decide) ?_
          refine r_sub [1, 3, 4, 0] rfl ?_
          exact ih (l1 + 1) (l4 + 1) μ h
  unfold wC_countItems at h
  refine r_iconst (pc := 0) C d_C_countItems_0 (v := 0) (by decide) ?_
  refine r_istore_n (pc := 1) (lv' := [(0, .inr (.inl (some 0)))]) C d_C_countItems_1 rfl (by decide) rfl ?_
  refine r_aload_n (pc := 2) C d_C_countItems_2 rfl 1 rfl ?_
  refine r_getR (pc := 3) (ci := 0) C rfl 2 (by decide) (k_108 C.w) rfl (lay_O rfl) d_C_countItems_3 ?_
  refine r_astore_n (pc := 6) (lv' := [(1, .inl 0), (0, .inr (.inl (some 0)))]) C d_C_countItems_6 rfl (by decide) rfl ?_
  refine r_aload_n (pc := 7) C d_C_countItems_7 rfl 0 rfl ?_
  refine r_alenQ (pc := 8) (v := 128) C (lay_A rfl) (by decide) d_C_countItems_8 ?_
  refine r_istore_n (pc := 9) (lv' := [(2, .inr (.inl (some 3))), (1, .inl 0), (0, .inr (.inl (some 0)))]) C d_C_countItems_9 rfl (by decide) rfl ?_
  refine r_iconst (pc := 10) C d_C_countItems_10 (v := 0) (by decide) ?_
  refine r_istore (pc := 11) (lv' := [(3, .inl 128), (2, .inr (.inl (some 3))), (1, .inl 0), (0, .inr (.inl (some 0)))]) C d_C_countItems_11 (by decide) rfl ?_
  obtain ⟨n7, h⟩ := h
  refine r_sub [3, 2, 1, 0] rfl ?_
  refine L_13 128 _ ?_ n7 0 0 μ h
  intro v5 v6 μ4 h
  refine r_iload_n (pc := 39) C d_C_countItems_39 rfl 0 rfl ?_
  exact r_iret (pc := 40) C d_C_countItems_40 (by decide) (by decide) h
theorem c_C_countYoung {l : Launch} (hl : l.stackTraces = false) {G : Gl} {post : Int32 → Mem → Prop} {μ : Mem} (h : wC_countYoung post μ) : Ct l G i_C_countYoung [.inr (.inl (some 0))] μ (poI post) noX := by
  refine ct_of hl (by decide) (Nat.le_of_ble_eq_true rfl) ?_
  intro K hKl C hE
  clear hl hKl
  replace C : Cx K G prog_1_method_20_code "LineCollector" 6 { frames := 1, cells := 0, slots := 0, locals := 20 } (some .int) (poI post) noX := C
  show Rn K G 6 0 [(0, .inr (.inl (some 0)))] [] μ 0 0
  have L_13 : ∀ (l3 : Int32) (k : Int32 → Int32 → Mem → Prop), (∀ (v1 : Int32) (v4 : Int32) (μ : Mem), k v1 v4 μ → Rn K G 6 47 [(1, .inl v1)] [] μ 0 0) → ∀ (n : Nat) (l1 : Int32) (l4 : Int32) (μ : Mem), wC_countYoung_13 l3 k n l1 l4 μ → Rn K G 6 13 [(1, .inl l1), (2, .inr (.inl (some 3))), (3, .inl l3), (4, .inl l4)] [] μ 0 0 := by
    intro l3 k hk n
    induction n with
    | zero => intro l1 l4 μ h; exact h.elim
    | succ n ih =>
      intro l1 l4 μ h
      unfold wC_countYoung_13 at h
      refine r_iload (pc := 13) C d_C_countYoung_13 3 rfl ?_
      refine r_iload_n (pc := 15) C d_C_countYoung_15 rfl 2 rfl ?_
      refine r_icmp_ge (tgt := 47) (pc := 16) C d_C_countYoung_16 (by decide) ?_ ?_
      · intro hc; replace h := h.1 hc
        refine r_sub [0] rfl ?_
        exact hk l1 l4 μ h
      · intro hc; replace h := h.2 hc
        refine r_aload_n (pc := 19) C d_C_countYoung_19 rfl 1 rfl ?_
        refine r_iload (pc := 20) C d_C_countYoung_20 3 rfl ?_
        obtain ⟨b1, h⟩ := h
        refine r_aald (pc := 22) C (lay_A rfl) b1 d_C_countYoung_22 ?_
        intro e2 he2; replace h := h e2 he2
        refine r_astore (pc := 23) (lv' := [(1, .inl l1), (2, .inr (.inl (some 3))), (3, .inl l3), (4, .inl l4)]) C d_C_countYoung_23 (by decide) rfl ?_
        refine r_aload (pc := 25) C d_C_countYoung_25 0 rfl ?_
        refine r_ifnull (tgt := 41) (pc := 27) C d_C_countYoung_27 (by decide) ?_ ?_
        · intro h0; subst h0; replace h := h.1 rfl
          refine r_iinc (pc := 41) (v := 1) (lv' := [(5, .inr (.inl none)), (1, .inl l1), (2, .inr (.inl (some 3))), (3, .inl l3)]) C d_C_countYoung_41 4 rfl (by decide) (by decide) rfl ?_
          refine r_goto (tgt := 13) (pc := 44) C d_C_countYoung_44 (by decide) ?_
          refine r_sub [2, 3, 4, 0] rfl ?_
          exact ih l1 (l4 + 1) μ h
        · intro y3 h0; subst h0; replace h := h.2 y3 rfl
          refine r_aload (pc := 30) C d_C_countYoung_30 0 rfl ?_
          obtain ⟨o4, h⟩ := h
          refine r_cVi (pc := 32) (a' := 0) (b' := 0) (As := []) (ci := 5) C (c_I_isOld C.s h) o_I_isOld rfl (ok_O o4) (k_209 C.w) rfl ⟨by decide, by decide, by decide, by decide⟩ rfl rfl (Nat.le_of_ble_eq_true rfl) d_C_countYoung_32 rfl ?_
          intro r6 μ5 h
          refine r_if_ne (tgt := 41) (pc := 35) C d_C_countYoung_35 (by decide) ?_ ?_
          · intro hc; replace h := h.2 hc
            refine r_iinc (pc := 41) (v := 1) (lv' := [(5, .inr (.inl (some y3))), (1, .inl l1), (2, .inr (.inl (some 3))), (3, .inl l3)]) C d_C_countYoung_41 4 rfl (by decide) (by decide) rfl ?_
            refine r_goto (tgt := 13) (pc := 44) C d_C_countYoung_44 (by decide) ?_
            refine r_sub [2, 3, 4, 0] rfl ?_
            exact ih l1 (l4 + 1) μ5 h
          · intro hc; replace h := h.1 hc
            refine r_iinc (pc := 38) (v := 1) (lv' := [(5, .inr (.inl (some y3))), (2, .inr (.inl (some 3))), (3, .inl l3), (4, .inl l4)]) C d_C_countYoung_38 1 rfl (by decide) (by decide) rfl ?_
            refine r_iinc (pc := 41) (v := 1) (lv' := [(1, .inl (l1 + 1)), (5, .inr (.inl (some y3))), (2, .inr (.inl (some 3))), (3, .inl l3)]) C d_C_countYoung_41 4 rfl (by decide) (by decide) rfl ?_
            refine r_goto (tgt := 13) (pc := 44) C d_C_countYoung_44 (by decide) ?_
            refine r_sub [1, 3, 4, 0] rfl ?_
            exact ih (l1 + 1) (l4 + 1) μ5 h
  unfold wC_countYoung at h
  refine r_iconst (pc := 0) C d_C_countYoung_0 (v := 0) (by decide) ?_
  refine r_istore_n (pc := 1) (lv' := [(0, .inr (.inl (some 0)))]) C d_C_countYoung_1 rfl (by decide) rfl ?_
  refine r_aload_n (pc := 2) C d_C_countYoung_2 rfl 1 rfl ?_
  refine r_getR (pc := 3) (ci := 0) C rfl 2 (by decide) (k_108 C.w) rfl (lay_O rfl) d_C_countYoung_3 ?_
  refine r_astore_n (pc := 6) (lv' := [(1, .inl 0), (0, .inr (.inl (some 0)))]) C d_C_countYoung_6 rfl (by decide) rfl ?_
  refine r_aload_n (pc := 7) C d_C_countYoung_7 rfl 0 rfl ?_
  refine r_alenQ (pc := 8) (v := 128) C (lay_A rfl) (by decide) d_C_countYoung_8 ?_
  refine r_istore_n (pc := 9) (lv' := [(2, .inr (.inl (some 3))), (1, .inl 0), (0, .inr (.inl (some 0)))]) C d_C_countYoung_9 rfl (by decide) rfl ?_
  refine r_iconst (pc := 10) C d_C_countYoung_10 (v := 0) (by decide) ?_
  refine r_istore (pc := 11) (lv' := [(3, .inl 128), (2, .inr (.inl (some 3))), (1, .inl 0), (0, .inr (.inl (some 0)))]) C d_C_countYoung_11 (by decide) rfl ?_
  obtain ⟨n10, h⟩ := h
  refine r_sub [3, 2, 1, 0] rfl ?_
  refine L_13 128 _ ?_ n10 0 0 μ h
  intro v8 v9 μ7 h
  refine r_iload_n (pc := 47) C d_C_countYoung_47 rfl 0 rfl ?_
  exact r_iret (pc := 48) C d_C_countYoung_48 (by decide) (by decide) h
theorem c_C_figure {l : Launch} (hl : l.stackTraces = false) {G : Gl} {a1 : Int32} {pe : Nat → Mem → Prop} {post : Int32 → Mem → Prop} {μ : Mem} (h : wC_figure a1 pe post μ) : Ct l G i_C_figure [.inr (.inl (some 0)), .inl a1] μ (poI post) pe := by
  refine ct_of hl (by decide) (Nat.le_of_ble_eq_true rfl) ?_
  intro K hKl C hE
  clear hl hKl
  replace C : Cx K G prog_1_method_14_code "LineCollector" 2 { frames := 6, cells := 1, slots := 6, locals := 81 } (some .int) (poI post) pe := C
  show Rn K G 2 0 [(0, .inr (.inl (some 0))), (1, .inl a1)] [] μ 0 0
  unfold wC_figure at h
  refine r_iload_n (pc := 0) C d_C_figure_0 rfl 1 rfl ?_
  by_cases hs0 : a1 = 0
  · replace h := h.1 hs0
    refine r_tin (tgt := 52) (pc := 1) C d_C_figure_1 hs0 (by decide) (by decide) (by rfl) (by decide) ?_
    refine r_aload_n (pc := 52) C d_C_figure_52 rfl 0 rfl ?_
    refine r_cVi (pc := 53) (a' := 0) (b' := 0) (As := []) (ci := 0) C (c_C_countItems C.s h) o_C_countItems rfl (lay_O rfl) (k_636 C.w) rfl ⟨by decide, by decide, by decide, by decide⟩ rfl rfl (Nat.le_of_ble_eq_true rfl) d_C_figure_53 rfl ?_
    intro r2 μ1 h
    exact r_iret (pc := 56) C d_C_figure_56 (by decide) (by decide) h
  by_cases hs1 : a1 = 1
  · replace h := h.2.1 hs1
    refine r_tin (tgt := 57) (pc := 1) C d_C_figure_1 hs1 (by decide) (by decide) (by rfl) (by decide) ?_
    refine r_aload_n (pc := 57) C d_C_figure_57 rfl 0 rfl ?_
    refine r_cVi (pc := 58) (a' := 0) (b' := 0) (As := []) (ci := 0) C (c_C_countYoung C.s h) o_C_countYoung rfl (lay_O rfl) (k_640 C.w) rfl ⟨by decide, by decide, by decide, by decide⟩ rfl rfl (Nat.le_of_ble_eq_true rfl) d_C_figure_58 rfl ?_
    intro r4 μ3 h
    exact r_iret (pc := 61) C d_C_figure_61 (by decide) (by decide) h
  by_cases hs2 : a1 = 2
  · replace h := h.2.2.1 hs2
    refine r_tin (tgt := 62) (pc := 1) C d_C_figure_1 hs2 (by decide) (by decide) (by rfl) (by decide) ?_
    refine r_aload_n (pc := 62) C d_C_figure_62 rfl 0 rfl ?_
    refine r_getR (pc := 63) (ci := 0) C rfl 5 (by decide) (k_111 C.w) rfl (lay_O rfl) d_C_figure_63 ?_
    refine r_getI (pc := 66) (ci := 4) C rfl 2 (by decide) (k_98 C.w) rfl (lay_O rfl) d_C_figure_66 ?_
    exact r_iret (pc := 69) C d_C_figure_69 (by decide) (by decide) h
  by_cases hs3 : a1 = 3
  · replace h := h.2.2.2.1 hs3
    refine r_tin (tgt := 70) (pc := 1) C d_C_figure_1 hs3 (by decide) (by decide) (by rfl) (by decide) ?_
    refine r_aload_n (pc := 70) C d_C_figure_70 rfl 0 rfl ?_
    refine r_getR (pc := 71) (ci := 0) C rfl 4 (by decide) (k_110 C.w) rfl (lay_O rfl) d_C_figure_71 ?_
    refine r_getI (pc := 74) (ci := 3) C rfl 3 (by decide) (k_78 C.w) rfl (lay_O rfl) d_C_figure_74 ?_
    exact r_iret (pc := 77) C d_C_figure_77 (by decide) (by decide) h
  by_cases hs4 : a1 = 4
  · replace h := h.2.2.2.2.1 hs4
    refine r_tin (tgt := 78) (pc := 1) C d_C_figure_1 hs4 (by decide) (by decide) (by rfl) (by decide) ?_
    refine r_aload_n (pc := 78) C d_C_figure_78 rfl 0 rfl ?_
    refine r_getI (pc := 79) (ci := 0) C rfl 8 (by decide) (k_114 C.w) rfl (lay_O rfl) d_C_figure_79 ?_
    exact r_iret (pc := 82) C d_C_figure_82 (by decide) (by decide) h
  by_cases hs5 : a1 = 5
  · replace h := h.2.2.2.2.2.1 hs5
    refine r_tin (tgt := 83) (pc := 1) C d_C_figure_1 hs5 (by decide) (by decide) (by rfl) (by decide) ?_
    refine r_aload_n (pc := 83) C d_C_figure_83 rfl 0 rfl ?_
    refine r_getI (pc := 84) (ci := 0) C rfl 7 (by decide) (k_113 C.w) rfl (lay_O rfl) d_C_figure_84 ?_
    refine r_if_eq (tgt := 94) (pc := 87) C d_C_figure_87 (by decide) ?_ ?_
    · intro hc; replace h := h.1 hc
      refine r_iconst (pc := 94) C d_C_figure_94 (v := 0) (by decide) ?_
      exact r_iret (pc := 95) C d_C_figure_95 (by decide) (by decide) h
    · intro hc; replace h := h.2 hc
      refine r_iconst (pc := 90) C d_C_figure_90 (v := 1) (by decide) ?_
      refine r_goto (tgt := 95) (pc := 91) C d_C_figure_91 (by decide) ?_
      exact r_iret (pc := 95) C d_C_figure_95 (by decide) (by decide) h
  by_cases hs6 : a1 = 6
  · replace h := h.2.2.2.2.2.2.1 hs6
    refine r_tin (tgt := 96) (pc := 1) C d_C_figure_1 hs6 (by decide) (by decide) (by rfl) (by decide) ?_
    refine r_aload_n (pc := 96) C d_C_figure_96 rfl 0 rfl ?_
    refine r_getI (pc := 97) (ci := 0) C rfl 9 (by decide) (k_115 C.w) rfl (lay_O rfl) d_C_figure_97 ?_
    exact r_iret (pc := 100) C d_C_figure_100 (by decide) (by decide) h
  by_cases hs7 : a1 = 7
  · replace h := h.2.2.2.2.2.2.2.1 hs7
    refine r_tin (tgt := 101) (pc := 1) C d_C_figure_1 hs7 (by decide) (by decide) (by rfl) (by decide) ?_
    refine r_aload_n (pc := 101) C d_C_figure_101 rfl 0 rfl ?_
    refine r_getI (pc := 102) (ci := 0) C rfl 10 (by decide) (k_116 C.w) rfl (lay_O rfl) d_C_figure_102 ?_
    exact r_iret (pc := 105) C d_C_figure_105 (by decide) (by decide) h
  by_cases hs8 : a1 = 8
  · replace h := h.2.2.2.2.2.2.2.2.1 hs8
    refine r_tin (tgt := 106) (pc := 1) C d_C_figure_1 hs8 (by decide) (by decide) (by rfl) (by decide) ?_
    refine r_aload_n (pc := 106) C d_C_figure_106 rfl 0 rfl ?_
    refine r_cVi (pc := 107) (a' := 0) (b' := 0) (As := []) (ci := 0) C (c_C_countGrey C.s h) o_C_countGrey rfl (lay_O rfl) (k_289 C.w) rfl ⟨by decide, by decide, by decide, by decide⟩ rfl rfl (Nat.le_of_ble_eq_true rfl) d_C_figure_107 rfl ?_
    intro r6 μ5 h
    exact r_iret (pc := 110) C d_C_figure_110 (by decide) (by decide) h
  replace h := h.2.2.2.2.2.2.2.2.2 hs0 hs1 hs2 hs3 hs4 hs5 hs6 hs7 hs8
  refine r_tout (tgt := 111) (N := 8) (pc := 1) C d_C_figure_1 (by decide) (fun n hn => ?_) (by decide) ?_
  · match n, hn with
    | 0, _ => exact hs0
    | 1, _ => exact hs1
    | 2, _ => exact hs2
    | 3, _ => exact hs3
    | 4, _ => exact hs4
    | 5, _ => exact hs5
    | 6, _ => exact hs6
    | 7, _ => exact hs7
    | 8, _ => exact hs8
    | n + 9, hn => exact absurd hn (by omega)
  exact r_throw (pc := 111) C hE (q := 7) rfl (by decide +kernel) (k_358 C.w) x_ins7 x_ini7 (x_C_51) d_C_figure_111 d_C_figure_114 d_C_figure_115 d_C_figure_118 ⟨by decide, by decide, by decide, by decide⟩ h
theorem c_M_thrown {l : Launch} (hl : l.stackTraces = false) {G : Gl} {post : Int32 → Mem → Prop} {μ : Mem} (h : wM_thrown post μ) : Ct l G i_M_thrown [.inr (.inl (some 17))] μ (poI post) noX := by
  refine ct_of hl (by decide) (Nat.le_of_ble_eq_true rfl) ?_
  intro K hKl C hE
  clear hl hKl
  replace C : Cx K G prog_8_method_2_code "LineCollectorModel" 1 { frames := 0, cells := 0, slots := 0, locals := 0 } (some .int) (poI post) noX := C
  show Rn K G 1 0 [(0, .inr (.inl (some 17)))] [] μ 0 0
  unfold wM_thrown at h
  refine r_aload_n (pc := 0) C d_M_thrown_0 rfl 0 rfl ?_
  refine r_getI (pc := 1) (ci := 6) C rfl 0 (by decide) (k_650 C.w) rfl (lay_O rfl) d_M_thrown_1 ?_
  exact r_iret (pc := 4) C d_M_thrown_4 (by decide) (by decide) h
theorem c_M_isUsed {l : Launch} (hl : l.stackTraces = false) {G : Gl} {a1 : Int32} {post : Int32 → Mem → Prop} {μ : Mem} (h : wM_isUsed a1 post μ) : Ct l G i_M_isUsed [.inr (.inl (some 17)), .inl a1] μ (poI post) noX := by
  refine ct_of hl (by decide) (Nat.le_of_ble_eq_true rfl) ?_
  intro K hKl C hE
  clear hl hKl
  replace C : Cx K G prog_8_method_3_code "LineCollectorModel" 4 { frames := 0, cells := 0, slots := 0, locals := 0 } (some .boolean) (poI post) noX := C
  show Rn K G 4 0 [(0, .inr (.inl (some 17))), (1, .inl a1)] [] μ 0 0
  have L_11 : ∀ (l1 : Int32) (k : Int32 → Int32 → Mem → Prop), (∀ (v2 : Int32) (v3 : Int32) (μ : Mem), k v2 v3 μ → Rn K G 4 45 [(2, .inl v2)] [] μ 0 0) → ∀ (n : Nat) (l2 : Int32) (l3 : Int32) (μ : Mem), wM_isUsed_11 l1 k n l2 l3 μ → Rn K G 4 11 [(0, .inr (.inl (some 17))), (1, .inl l1), (2, .inl l2), (3, .inl l3)] [] μ 0 0 := by
    intro l1 k hk n
    induction n with
    | zero => intro l2 l3 μ h; exact h.elim
    | succ n ih =>
      intro l2 l3 μ h
      unfold wM_isUsed_11 at h
      refine r_iload_n (pc := 11) C d_M_isUsed_11 rfl 3 rfl ?_
      refine r_iconst (pc := 12) C d_M_isUsed_12 (v := 4) (by decide) ?_
      refine r_iload_n (pc := 13) C d_M_isUsed_13 rfl 1 rfl ?_
      refine r_imul (pc := 14) C d_M_isUsed_14 ?_
      refine r_iconst (pc := 15) C d_M_isUsed_15 (v := 4) (by decide) ?_
      refine r_iadd (pc := 16) C d_M_isUsed_16 ?_
      refine r_icmp_ge (tgt := 45) (pc := 17) C d_M_isUsed_17 (by decide) ?_ ?_
      · intro hc; replace h := h.1 hc
        refine r_sub [2] rfl ?_
        exact hk l2 l3 μ h
      · intro hc; replace h := h.2 hc
        refine r_iload_n (pc := 20) C d_M_isUsed_20 rfl 2 rfl ?_
        refine r_if_ne (tgt := 33) (pc := 21) C d_M_isUsed_21 (by decide) ?_ ?_
        · intro hc; replace h := h.2 hc
          refine r_iconst (pc := 33) C d_M_isUsed_33 (v := 1) (by decide) ?_
          refine r_goto (tgt := 38) (pc := 34) C d_M_isUsed_34 (by decide) ?_
          refine r_istore_n (pc := 38) (lv' := [(0, .inr (.inl (some 17))), (1, .inl l1), (3, .inl l3)]) C d_M_isUsed_38 rfl (by decide) rfl ?_
          refine r_iinc (pc := 39) (v := 1) (lv' := [(2, .inl 1), (0, .inr (.inl (some 17))), (1, .inl l1)]) C d_M_isUsed_39 3 rfl (by decide) (by decide) rfl ?_
          refine r_goto (tgt := 11) (pc := 42) C d_M_isUsed_42 (by decide) ?_
          refine r_sub [2, 3, 1, 0] rfl ?_
          exact ih 1 (l3 + 1) μ h
        · intro hc; replace h := h.1 hc
          refine r_aload_n (pc := 24) C d_M_isUsed_24 rfl 0 rfl ?_
          refine r_getR (pc := 25) (ci := 6) C rfl 1 (by decide) (k_651 C.w) rfl (lay_O rfl) d_M_isUsed_25 ?_
          refine r_iload_n (pc := 28) C d_M_isUsed_28 rfl 3 rfl ?_
          obtain ⟨b2, h⟩ := h
          refine r_iald (pc := 29) C (lay_A rfl) b2 d_M_isUsed_29 ?_
          refine r_if_lt (tgt := 37) (pc := 30) C d_M_isUsed_30 (by decide) ?_ ?_
          · intro hc; replace h := h.1 hc
            refine r_iconst (pc := 37) C d_M_isUsed_37 (v := 0) (by decide) ?_
            refine r_istore_n (pc := 38) (lv' := [(0, .inr (.inl (some 17))), (1, .inl l1), (3, .inl l3)]) C d_M_isUsed_38 rfl (by decide) rfl ?_
            refine r_iinc (pc := 39) (v := 1) (lv' := [(2, .inl 0), (0, .inr (.inl (some 17))), (1, .inl l1)]) C d_M_isUsed_39 3 rfl (by decide) (by decide) rfl ?_
            refine r_goto (tgt := 11) (pc := 42) C d_M_isUsed_42 (by decide) ?_
            refine r_sub [2, 3, 1, 0] rfl ?_
            exact ih 0 (l3 + 1) μ h
          · intro hc; replace h := h.2 hc
            refine r_iconst (pc := 33) C d_M_isUsed_33 (v := 1) (by decide) ?_
            refine r_goto (tgt := 38) (pc := 34) C d_M_isUsed_34 (by decide) ?_
            refine r_istore_n (pc := 38) (lv' := [(0, .inr (.inl (some 17))), (1, .inl l1), (3, .inl l3)]) C d_M_isUsed_38 rfl (by decide) rfl ?_
            refine r_iinc (pc := 39) (v := 1) (lv' := [(2, .inl 1), (0, .inr (.inl (some 17))), (1, .inl l1)]) C d_M_isUsed_39 3 rfl (by decide) (by decide) rfl ?_
            refine r_goto (tgt := 11) (pc := 42) C d_M_isUsed_42 (by decide) ?_
            refine r_sub [2, 3, 1, 0] rfl ?_
            exact ih 1 (l3 + 1) μ h
  unfold wM_isUsed at h
  refine r_aload_n (pc := 0) C d_M_isUsed_0 rfl 0 rfl ?_
  refine r_getR (pc := 1) (ci := 6) C rfl 18 (by decide) (k_668 C.w) rfl (lay_O rfl) d_M_isUsed_1 ?_
  refine r_iload_n (pc := 4) C d_M_isUsed_4 rfl 1 rfl ?_
  obtain ⟨b1, h⟩ := h
  refine r_zald (pc := 5) C (lay_A rfl) b1 d_M_isUsed_5 ?_
  refine r_istore_n (pc := 6) (lv' := [(0, .inr (.inl (some 17))), (1, .inl a1)]) C d_M_isUsed_6 rfl (by decide) rfl ?_
  refine r_iconst (pc := 7) C d_M_isUsed_7 (v := 4) (by decide) ?_
  refine r_iload_n (pc := 8) C d_M_isUsed_8 rfl 2 rfl ?_
  refine r_imul (pc := 9) C d_M_isUsed_9 ?_
  refine r_istore_n (pc := 10) (lv' := [(2, .inl (mI μ 29 (a1).toNatClampNeg)), (0, .inr (.inl (some 17))), (1, .inl a1)]) C d_M_isUsed_10 rfl (by decide) rfl ?_
  obtain ⟨n7, h⟩ := h
  refine r_sub [2, 3, 1, 0] rfl ?_
  refine L_11 a1 _ ?_ n7 (mI μ 29 (a1).toNatClampNeg) (4 * a1) μ h
  intro v4 v5 μ3 h
  refine r_iload_n (pc := 45) C d_M_isUsed_45 rfl 0 rfl ?_
  obtain ⟨z6, h⟩ := h
  exact r_zret (pc := 46) C z6 d_M_isUsed_46 (by decide) (by decide) h
theorem c_M_isTaken {l : Launch} (hl : l.stackTraces = false) {G : Gl} {a1 : Int32} {post : Int32 → Mem → Prop} {μ : Mem} (h : wM_isTaken a1 post μ) : Ct l G i_M_isTaken [.inr (.inl (some 17)), .inl a1] μ (poI post) noX := by
  refine ct_of hl (by decide) (Nat.le_of_ble_eq_true rfl) ?_
  intro K hKl C hE
  clear hl hKl
  replace C : Cx K G prog_8_method_4_code "LineCollectorModel" 2 { frames := 0, cells := 0, slots := 0, locals := 0 } (some .boolean) (poI post) noX := C
  show Rn K G 2 0 [(0, .inr (.inl (some 17))), (1, .inl a1)] [] μ 0 0
  have J_23 : ∀ (l1 : Int32) (μ : Mem), wM_isTaken_23 l1 post μ → Rn K G 2 23 [(0, .inr (.inl (some 17))), (1, .inl l1)] [] μ 0 0 := by
    intro l1 μ h
    unfold wM_isTaken_23 at h
    refine r_aload_n (pc := 23) C d_M_isTaken_23 rfl 0 rfl ?_
    refine r_getI (pc := 24) (ci := 6) C rfl 16 (by decide) (k_666 C.w) rfl (lay_O rfl) d_M_isTaken_24 ?_
    refine r_if_lt (tgt := 45) (pc := 27) C d_M_isTaken_27 (by decide) ?_ ?_
    · intro hc; replace h := h.1 hc
      refine r_iconst (pc := 45) C d_M_isTaken_45 (v := 0) (by decide) ?_
      exact r_zret (pc := 46) C (Or.inl rfl) d_M_isTaken_46 (by decide) (by decide) h
    · intro hc; replace h := h.2 hc
      refine r_iload_n (pc := 30) C d_M_isTaken_30 rfl 1 rfl ?_
      refine r_bipush (pc := 31) C d_M_isTaken_31 (v := 8) (by decide) ?_
      refine r_idiv (pc := 33) C d_M_isTaken_33 (by decide) ?_
      refine r_aload_n (pc := 34) C d_M_isTaken_34 rfl 0 rfl ?_
      refine r_getI (pc := 35) (ci := 6) C rfl 16 (by decide) (k_666 C.w) rfl (lay_O rfl) d_M_isTaken_35 ?_
      refine r_icmp_ne (tgt := 45) (pc := 38) C d_M_isTaken_38 (by decide) ?_ ?_
      · intro hc; replace h := h.2 hc
        refine r_iconst (pc := 45) C d_M_isTaken_45 (v := 0) (by decide) ?_
        exact r_zret (pc := 46) C (Or.inl rfl) d_M_isTaken_46 (by decide) (by decide) h
      · intro hc; replace h := h.1 hc
        refine r_iconst (pc := 41) C d_M_isTaken_41 (v := 1) (by decide) ?_
        refine r_goto (tgt := 46) (pc := 42) C d_M_isTaken_42 (by decide) ?_
        exact r_zret (pc := 46) C (Or.inr rfl) d_M_isTaken_46 (by decide) (by decide) h
  unfold wM_isTaken at h
  refine r_aload_n (pc := 0) C d_M_isTaken_0 rfl 0 rfl ?_
  refine r_getI (pc := 1) (ci := 6) C rfl 13 (by decide) (k_663 C.w) rfl (lay_O rfl) d_M_isTaken_1 ?_
  refine r_if_lt (tgt := 23) (pc := 4) C d_M_isTaken_4 (by decide) ?_ ?_
  · intro hc; replace h := h.1 hc
    exact J_23 a1 μ h
  · intro hc; replace h := h.2 hc
    refine r_iload_n (pc := 7) C d_M_isTaken_7 rfl 1 rfl ?_
    refine r_aload_n (pc := 8) C d_M_isTaken_8 rfl 0 rfl ?_
    refine r_getI (pc := 9) (ci := 6) C rfl 13 (by decide) (k_663 C.w) rfl (lay_O rfl) d_M_isTaken_9 ?_
    refine r_icmp_lt (tgt := 23) (pc := 12) C d_M_isTaken_12 (by decide) ?_ ?_
    · intro hc; replace h := h.1 hc
      exact J_23 a1 μ h
    · intro hc; replace h := h.2 hc
      refine r_iload_n (pc := 15) C d_M_isTaken_15 rfl 1 rfl ?_
      refine r_aload_n (pc := 16) C d_M_isTaken_16 rfl 0 rfl ?_
      refine r_getI (pc := 17) (ci := 6) C rfl 14 (by decide) (k_664 C.w) rfl (lay_O rfl) d_M_isTaken_17 ?_
      refine r_icmp_lt (tgt := 41) (pc := 20) C d_M_isTaken_20 (by decide) ?_ ?_
      · intro hc; replace h := h.1 hc
        refine r_iconst (pc := 41) C d_M_isTaken_41 (v := 1) (by decide) ?_
        refine r_goto (tgt := 46) (pc := 42) C d_M_isTaken_42 (by decide) ?_
        exact r_zret (pc := 46) C (Or.inr rfl) d_M_isTaken_46 (by decide) (by decide) h
      · intro hc; replace h := h.2 hc
        exact J_23 a1 μ h
theorem c_M_isFree {l : Launch} (hl : l.stackTraces = false) {G : Gl} {a1 : Int32} {post : Int32 → Mem → Prop} {μ : Mem} (h : wM_isFree a1 post μ) : Ct l G i_M_isFree [.inr (.inl (some 17)), .inl a1] μ (poI post) noX := by
  refine ct_of hl (by decide) (Nat.le_of_ble_eq_true rfl) ?_
  intro K hKl C hE
  clear hl hKl
  replace C : Cx K G prog_8_method_5_code "LineCollectorModel" 2 { frames := 1, cells := 0, slots := 0, locals := 23 } (some .boolean) (poI post) noX := C
  show Rn K G 2 0 [(0, .inr (.inl (some 17))), (1, .inl a1)] [] μ 0 0
  unfold wM_isFree at h
  refine r_aload_n (pc := 0) C d_M_isFree_0 rfl 0 rfl ?_
  refine r_iload_n (pc := 1) C d_M_isFree_1 rfl 1 rfl ?_
  refine r_cVi (pc := 2) (a' := 0) (b' := 0) (As := [.inl a1]) (ci := 6) C (c_M_isUsed C.s h) o_M_isUsed rfl (lay_O rfl) (k_767 C.w) rfl ⟨by decide, by decide, by decide, by decide⟩ rfl rfl (Nat.le_of_ble_eq_true rfl) d_M_isFree_2 rfl ?_
  intro r2 μ1 h
  refine r_if_ne (tgt := 31) (pc := 5) C d_M_isFree_5 (by decide) ?_ ?_
  · intro hc; replace h := h.2 hc
    refine r_iconst (pc := 31) C d_M_isFree_31 (v := 0) (by decide) ?_
    exact r_zret (pc := 32) C (Or.inl rfl) d_M_isFree_32 (by decide) (by decide) h
  · intro hc; replace h := h.1 hc
    refine r_aload_n (pc := 8) C d_M_isFree_8 rfl 0 rfl ?_
    refine r_iload_n (pc := 9) C d_M_isFree_9 rfl 1 rfl ?_
    refine r_cVi (pc := 10) (a' := 0) (b' := 0) (As := [.inl a1]) (ci := 6) C (c_M_isTaken C.s h) o_M_isTaken rfl (lay_O rfl) (k_771 C.w) rfl ⟨by decide, by decide, by decide, by decide⟩ rfl rfl (Nat.le_of_ble_eq_true rfl) d_M_isFree_10 rfl ?_
    intro r4 μ3 h
    refine r_if_ne (tgt := 31) (pc := 13) C d_M_isFree_13 (by decide) ?_ ?_
    · intro hc; replace h := h.2 hc
      refine r_iconst (pc := 31) C d_M_isFree_31 (v := 0) (by decide) ?_
      exact r_zret (pc := 32) C (Or.inl rfl) d_M_isFree_32 (by decide) (by decide) h
    · intro hc; replace h := h.1 hc
      refine r_iload_n (pc := 16) C d_M_isFree_16 rfl 1 rfl ?_
      refine r_bipush (pc := 17) C d_M_isFree_17 (v := 8) (by decide) ?_
      refine r_idiv (pc := 19) C d_M_isFree_19 (by decide) ?_
      refine r_aload_n (pc := 20) C d_M_isFree_20 rfl 0 rfl ?_
      refine r_getI (pc := 21) (ci := 6) C rfl 19 (by decide) (k_669 C.w) rfl (lay_O rfl) d_M_isFree_21 ?_
      refine r_icmp_eq (tgt := 31) (pc := 24) C d_M_isFree_24 (by decide) ?_ ?_
      · intro hc; replace h := h.1 hc
        refine r_iconst (pc := 31) C d_M_isFree_31 (v := 0) (by decide) ?_
        exact r_zret (pc := 32) C (Or.inl rfl) d_M_isFree_32 (by decide) (by decide) h
      · intro hc; replace h := h.2 hc
        refine r_iconst (pc := 27) C d_M_isFree_27 (v := 1) (by decide) ?_
        refine r_goto (tgt := 32) (pc := 28) C d_M_isFree_28 (by decide) ?_
        exact r_zret (pc := 32) C (Or.inr rfl) d_M_isFree_32 (by decide) (by decide) h
theorem c_M_isFreeBlock {l : Launch} (hl : l.stackTraces = false) {G : Gl} {a1 : Int32} {post : Int32 → Mem → Prop} {μ : Mem} (h : wM_isFreeBlock a1 post μ) : Ct l G i_M_isFreeBlock [.inr (.inl (some 17)), .inl a1] μ (poI post) noX := by
  refine ct_of hl (by decide) (Nat.le_of_ble_eq_true rfl) ?_
  intro K hKl C hE
  clear hl hKl
  replace C : Cx K G prog_8_method_6_code "LineCollectorModel" 4 { frames := 2, cells := 0, slots := 0, locals := 44 } (some .boolean) (poI post) noX := C
  show Rn K G 4 0 [(0, .inr (.inl (some 17))), (1, .inl a1)] [] μ 0 0
  have L_7 : ∀ (l1 : Int32) (k : Int32 → Int32 → Mem → Prop), (∀ (v2 : Int32) (v3 : Int32) (μ : Mem), k v2 v3 μ → Rn K G 4 42 [(2, .inl v2)] [] μ 0 0) → ∀ (n : Nat) (l2 : Int32) (l3 : Int32) (μ : Mem), wM_isFreeBlock_7 l1 k n l2 l3 μ → Rn K G 4 7 [(0, .inr (.inl (some 17))), (1, .inl l1), (2, .inl l2), (3, .inl l3)] [] μ 0 0 := by
    intro l1 k hk n
    induction n with
    | zero => intro l2 l3 μ h; exact h.elim
    | succ n ih =>
      intro l2 l3 μ h
      unfold wM_isFreeBlock_7 at h
      refine r_iload_n (pc := 7) C d_M_isFreeBlock_7 rfl 3 rfl ?_
      refine r_bipush (pc := 8) C d_M_isFreeBlock_8 (v := 8) (by decide) ?_
      refine r_iload_n (pc := 10) C d_M_isFreeBlock_10 rfl 1 rfl ?_
      refine r_imul (pc := 11) C d_M_isFreeBlock_11 ?_
      refine r_bipush (pc := 12) C d_M_isFreeBlock_12 (v := 8) (by decide) ?_
      refine r_iadd (pc := 14) C d_M_isFreeBlock_14 ?_
      refine r_icmp_ge (tgt := 42) (pc := 15) C d_M_isFreeBlock_15 (by decide) ?_ ?_
      · intro hc; replace h := h.1 hc
        refine r_sub [2] rfl ?_
        exact hk l2 l3 μ h
      · intro hc; replace h := h.2 hc
        refine r_iload_n (pc := 18) C d_M_isFreeBlock_18 rfl 2 rfl ?_
        refine r_if_eq (tgt := 34) (pc := 19) C d_M_isFreeBlock_19 (by decide) ?_ ?_
        · intro hc; replace h := h.1 hc
          refine r_iconst (pc := 34) C d_M_isFreeBlock_34 (v := 0) (by decide) ?_
          refine r_istore_n (pc := 35) (lv' := [(0, .inr (.inl (some 17))), (1, .inl l1), (3, .inl l3)]) C d_M_isFreeBlock_35 rfl (by decide) rfl ?_
          refine r_iinc (pc := 36) (v := 1) (lv' := [(2, .inl 0), (0, .inr (.inl (some 17))), (1, .inl l1)]) C d_M_isFreeBlock_36 3 rfl (by decide) (by decide) rfl ?_
          refine r_goto (tgt := 7) (pc := 39) C d_M_isFreeBlock_39 (by decide) ?_
          refine r_sub [2, 3, 1, 0] rfl ?_
          exact ih 0 (l3 + 1) μ h
        · intro hc; replace h := h.2 hc
          refine r_aload_n (pc := 22) C d_M_isFreeBlock_22 rfl 0 rfl ?_
          refine r_iload_n (pc := 23) C d_M_isFreeBlock_23 rfl 3 rfl ?_
          refine r_cVi (pc := 24) (a' := 0) (b' := 0) (As := [.inl l3]) (ci := 6) C (c_M_isFree C.s h) o_M_isFree rfl (lay_O rfl) (k_763 C.w) rfl ⟨by decide, by decide, by decide, by decide⟩ rfl rfl (Nat.le_of_ble_eq_true rfl) d_M_isFreeBlock_24 rfl ?_
          intro r2 μ1 h
          refine r_if_eq (tgt := 34) (pc := 27) C d_M_isFreeBlock_27 (by decide) ?_ ?_
          · intro hc; replace h := h.1 hc
            refine r_iconst (pc := 34) C d_M_isFreeBlock_34 (v := 0) (by decide) ?_
            refine r_istore_n (pc := 35) (lv' := [(0, .inr (.inl (some 17))), (1, .inl l1), (3, .inl l3)]) C d_M_isFreeBlock_35 rfl (by decide) rfl ?_
            refine r_iinc (pc := 36) (v := 1) (lv' := [(2, .inl 0), (0, .inr (.inl (some 17))), (1, .inl l1)]) C d_M_isFreeBlock_36 3 rfl (by decide) (by decide) rfl ?_
            refine r_goto (tgt := 7) (pc := 39) C d_M_isFreeBlock_39 (by decide) ?_
            refine r_sub [2, 3, 1, 0] rfl ?_
            exact ih 0 (l3 + 1) μ1 h
          · intro hc; replace h := h.2 hc
            refine r_iconst (pc := 30) C d_M_isFreeBlock_30 (v := 1) (by decide) ?_
            refine r_goto (tgt := 35) (pc := 31) C d_M_isFreeBlock_31 (by decide) ?_
            refine r_istore_n (pc := 35) (lv' := [(0, .inr (.inl (some 17))), (1, .inl l1), (3, .inl l3)]) C d_M_isFreeBlock_35 rfl (by decide) rfl ?_
            refine r_iinc (pc := 36) (v := 1) (lv' := [(2, .inl 1), (0, .inr (.inl (some 17))), (1, .inl l1)]) C d_M_isFreeBlock_36 3 rfl (by decide) (by decide) rfl ?_
            refine r_goto (tgt := 7) (pc := 39) C d_M_isFreeBlock_39 (by decide) ?_
            refine r_sub [2, 3, 1, 0] rfl ?_
            exact ih 1 (l3 + 1) μ1 h
  unfold wM_isFreeBlock at h
  refine r_iconst (pc := 0) C d_M_isFreeBlock_0 (v := 1) (by decide) ?_
  refine r_istore_n (pc := 1) (lv' := [(0, .inr (.inl (some 17))), (1, .inl a1)]) C d_M_isFreeBlock_1 rfl (by decide) rfl ?_
  refine r_bipush (pc := 2) C d_M_isFreeBlock_2 (v := 8) (by decide) ?_
  refine r_iload_n (pc := 4) C d_M_isFreeBlock_4 rfl 2 rfl ?_
  refine r_imul (pc := 5) C d_M_isFreeBlock_5 ?_
  refine r_istore_n (pc := 6) (lv' := [(2, .inl 1), (0, .inr (.inl (some 17))), (1, .inl a1)]) C d_M_isFreeBlock_6 rfl (by decide) rfl ?_
  obtain ⟨n7, h⟩ := h
  refine r_sub [2, 3, 1, 0] rfl ?_
  refine L_7 a1 _ ?_ n7 1 (8 * a1) μ h
  intro v4 v5 μ3 h
  refine r_iload_n (pc := 42) C d_M_isFreeBlock_42 rfl 0 rfl ?_
  obtain ⟨z6, h⟩ := h
  exact r_zret (pc := 43) C z6 d_M_isFreeBlock_43 (by decide) (by decide) h
theorem c_M_forget {l : Launch} (hl : l.stackTraces = false) {G : Gl} {post : Mem → Prop} {μ : Mem} (h : wM_forget post μ) : Ct l G i_M_forget [.inr (.inl (some 17))] μ (poV post) noX := by
  refine ct_of hl (by decide) (Nat.le_of_ble_eq_true rfl) ?_
  intro K hKl C hE
  clear hl hKl
  replace C : Cx K G prog_8_method_7_code "LineCollectorModel" 1 { frames := 0, cells := 0, slots := 0, locals := 0 } (none) (poV post) noX := C
  show Rn K G 1 0 [(0, .inr (.inl (some 17)))] [] μ 0 0
  unfold wM_forget at h
  refine r_aload_n (pc := 0) C d_M_forget_0 rfl 0 rfl ?_
  refine r_iconst (pc := 1) C d_M_forget_1 (v := (-1)) (by decide) ?_
  refine r_putI (pc := 2) (ci := 6) C rfl 13 (by decide) (k_663 C.w) rfl rfl p_I (lay_O rfl) d_M_forget_2 ?_
  intro μ1 eμ1; replace h := h μ1 eμ1
  refine r_aload_n (pc := 5) C d_M_forget_5 rfl 0 rfl ?_
  refine r_iconst (pc := 6) C d_M_forget_6 (v := (-1)) (by decide) ?_
  refine r_putI (pc := 7) (ci := 6) C rfl 16 (by decide) (k_666 C.w) rfl rfl p_I (lay_O rfl) d_M_forget_7 ?_
  intro μ2 eμ2; replace h := h μ2 eμ2
  exact r_vret (pc := 10) C d_M_forget_10 (by decide) (by decide) h
theorem c_M_placeInBlock {l : Launch} (hl : l.stackTraces = false) {G : Gl} {a1 : Int32} {post : Int32 → Mem → Prop} {μ : Mem} (h : wM_placeInBlock a1 post μ) : Ct l G i_M_placeInBlock [.inr (.inl (some 17)), .inl a1] μ (poI post) noX := by
  refine ct_of hl (by decide) (Nat.le_of_ble_eq_true rfl) ?_
  intro K hKl C hE
  clear hl hKl
  replace C : Cx K G prog_8_method_10_code "LineCollectorModel" 3 { frames := 3, cells := 0, slots := 0, locals := 67 } (some .int) (poI post) noX := C
  show Rn K G 3 0 [(0, .inr (.inl (some 17))), (1, .inl a1)] [] μ 0 0
  have L_45 : ∀ (l1 : Int32) (k : Int32 → Mem → Prop), (∀ (v2 : Int32) (μ : Mem), k v2 μ → Rn K G 3 64 [(0, .inr (.inl (some 17))), (1, .inl l1), (2, .inl v2)] [] μ 0 0) → ∀ (n : Nat) (l2 : Int32) (μ : Mem), wM_placeInBlock_45 k n l2 μ → Rn K G 3 45 [(0, .inr (.inl (some 17))), (1, .inl l1), (2, .inl l2)] [] μ 0 0 := by
    intro l1 k hk n
    induction n with
    | zero => intro l2 μ h; exact h.elim
    | succ n ih =>
      intro l2 μ h
      unfold wM_placeInBlock_45 at h
      refine r_iload_n (pc := 45) C d_M_placeInBlock_45 rfl 2 rfl ?_
      refine r_iconst (pc := 46) C d_M_placeInBlock_46 (v := 4) (by decide) ?_
      refine r_icmp_ge (tgt := 64) (pc := 47) C d_M_placeInBlock_47 (by decide) ?_ ?_
      · intro hc; replace h := h.1 hc
        exact hk l2 μ h
      · intro hc; replace h := h.2 hc
        refine r_aload_n (pc := 50) C d_M_placeInBlock_50 rfl 0 rfl ?_
        refine r_iload_n (pc := 51) C d_M_placeInBlock_51 rfl 2 rfl ?_
        refine r_cVi (pc := 52) (a' := 0) (b' := 0) (As := [.inl l2]) (ci := 6) C (c_M_isFreeBlock C.s h) o_M_isFreeBlock rfl (lay_O rfl) (k_779 C.w) rfl ⟨by decide, by decide, by decide, by decide⟩ rfl rfl (Nat.le_of_ble_eq_true rfl) d_M_placeInBlock_52 rfl ?_
        intro r2 μ1 h
        refine r_if_ne (tgt := 64) (pc := 55) C d_M_placeInBlock_55 (by decide) ?_ ?_
        · intro hc; replace h := h.2 hc
          exact hk l2 μ1 h
        · intro hc; replace h := h.1 hc
          refine r_iinc (pc := 58) (v := 1) (lv' := [(0, .inr (.inl (some 17))), (1, .inl l1)]) C d_M_placeInBlock_58 2 rfl (by decide) (by decide) rfl ?_
          refine r_goto (tgt := 45) (pc := 61) C d_M_placeInBlock_61 (by decide) ?_
          refine r_sub [1, 2, 0] rfl ?_
          exact ih (l2 + 1) μ1 h
  have J_64 : ∀ (l1 : Int32) (l2 : Int32) (μ : Mem), wM_placeInBlock_64 l1 l2 post μ → Rn K G 3 64 [(0, .inr (.inl (some 17))), (1, .inl l1), (2, .inl l2)] [] μ 0 0 := by
    intro l1 l2 μ h
    unfold wM_placeInBlock_64 at h
    refine r_iload_n (pc := 64) C d_M_placeInBlock_64 rfl 2 rfl ?_
    refine r_iconst (pc := 65) C d_M_placeInBlock_65 (v := 4) (by decide) ?_
    refine r_icmp_ne (tgt := 71) (pc := 66) C d_M_placeInBlock_66 (by decide) ?_ ?_
    · intro hc; replace h := h.2 hc
      refine r_aload_n (pc := 71) C d_M_placeInBlock_71 rfl 0 rfl ?_
      refine r_iload_n (pc := 72) C d_M_placeInBlock_72 rfl 2 rfl ?_
      refine r_putI (pc := 73) (ci := 6) C rfl 16 (by decide) (k_666 C.w) rfl rfl p_I (lay_O rfl) d_M_placeInBlock_73 ?_
      intro μ5 eμ5; replace h := h μ5 eμ5
      refine r_aload_n (pc := 76) C d_M_placeInBlock_76 rfl 0 rfl ?_
      refine r_bipush (pc := 77) C d_M_placeInBlock_77 (v := 32) (by decide) ?_
      refine r_iload_n (pc := 79) C d_M_placeInBlock_79 rfl 2 rfl ?_
      refine r_imul (pc := 80) C d_M_placeInBlock_80 ?_
      refine r_iload_n (pc := 81) C d_M_placeInBlock_81 rfl 1 rfl ?_
      refine r_iadd (pc := 82) C d_M_placeInBlock_82 ?_
      refine r_putI (pc := 83) (ci := 6) C rfl 17 (by decide) (k_667 C.w) rfl rfl p_I (lay_O rfl) d_M_placeInBlock_83 ?_
      intro μ6 eμ6; replace h := h μ6 eμ6
      refine r_bipush (pc := 86) C d_M_placeInBlock_86 (v := 32) (by decide) ?_
      refine r_iload_n (pc := 88) C d_M_placeInBlock_88 rfl 2 rfl ?_
      refine r_imul (pc := 89) C d_M_placeInBlock_89 ?_
      exact r_iret (pc := 90) C d_M_placeInBlock_90 (by decide) (by decide) h
    · intro hc; replace h := h.1 hc
      refine r_iconst (pc := 69) C d_M_placeInBlock_69 (v := (-1)) (by decide) ?_
      exact r_iret (pc := 70) C d_M_placeInBlock_70 (by decide) (by decide) h
  have J_43 : ∀ (l1 : Int32) (μ : Mem), wM_placeInBlock_43 l1 post μ → Rn K G 3 43 [(0, .inr (.inl (some 17))), (1, .inl l1)] [] μ 0 0 := by
    intro l1 μ h
    unfold wM_placeInBlock_43 at h
    refine r_iconst (pc := 43) C d_M_placeInBlock_43 (v := 0) (by decide) ?_
    refine r_istore_n (pc := 44) (lv' := [(0, .inr (.inl (some 17))), (1, .inl l1)]) C d_M_placeInBlock_44 rfl (by decide) rfl ?_
    obtain ⟨n7, h⟩ := h
    refine r_sub [1, 2, 0] rfl ?_
    refine L_45 l1 _ ?_ n7 0 μ h
    intro v4 μ3 h
    exact J_64 l1 v4 μ3 h
  unfold wM_placeInBlock at h
  refine r_aload_n (pc := 0) C d_M_placeInBlock_0 rfl 0 rfl ?_
  refine r_getI (pc := 1) (ci := 6) C rfl 16 (by decide) (k_666 C.w) rfl (lay_O rfl) d_M_placeInBlock_1 ?_
  refine r_if_lt (tgt := 43) (pc := 4) C d_M_placeInBlock_4 (by decide) ?_ ?_
  · intro hc; replace h := h.1 hc
    exact J_43 a1 μ h
  · intro hc; replace h := h.2 hc
    refine r_aload_n (pc := 7) C d_M_placeInBlock_7 rfl 0 rfl ?_
    refine r_getI (pc := 8) (ci := 6) C rfl 17 (by decide) (k_667 C.w) rfl (lay_O rfl) d_M_placeInBlock_8 ?_
    refine r_iload_n (pc := 11) C d_M_placeInBlock_11 rfl 1 rfl ?_
    refine r_iadd (pc := 12) C d_M_placeInBlock_12 ?_
    refine r_bipush (pc := 13) C d_M_placeInBlock_13 (v := 32) (by decide) ?_
    refine r_aload_n (pc := 15) C d_M_placeInBlock_15 rfl 0 rfl ?_
    refine r_getI (pc := 16) (ci := 6) C rfl 16 (by decide) (k_666 C.w) rfl (lay_O rfl) d_M_placeInBlock_16 ?_
    refine r_imul (pc := 19) C d_M_placeInBlock_19 ?_
    refine r_bipush (pc := 20) C d_M_placeInBlock_20 (v := 32) (by decide) ?_
    refine r_iadd (pc := 22) C d_M_placeInBlock_22 ?_
    refine r_icmp_gt (tgt := 43) (pc := 23) C d_M_placeInBlock_23 (by decide) ?_ ?_
    · intro hc; replace h := h.1 hc
      exact J_43 a1 μ h
    · intro hc; replace h := h.2 hc
      refine r_aload_n (pc := 26) C d_M_placeInBlock_26 rfl 0 rfl ?_
      refine r_aload_n (pc := 27) C d_M_placeInBlock_27 rfl 0 rfl ?_
      refine r_getI (pc := 28) (ci := 6) C rfl 17 (by decide) (k_667 C.w) rfl (lay_O rfl) d_M_placeInBlock_28 ?_
      refine r_iload_n (pc := 31) C d_M_placeInBlock_31 rfl 1 rfl ?_
      refine r_iadd (pc := 32) C d_M_placeInBlock_32 ?_
      refine r_putI (pc := 33) (ci := 6) C rfl 17 (by decide) (k_667 C.w) rfl rfl p_I (lay_O rfl) d_M_placeInBlock_33 ?_
      intro μ8 eμ8; replace h := h μ8 eμ8
      refine r_aload_n (pc := 36) C d_M_placeInBlock_36 rfl 0 rfl ?_
      refine r_getI (pc := 37) (ci := 6) C rfl 17 (by decide) (k_667 C.w) rfl (lay_O rfl) d_M_placeInBlock_37 ?_
      refine r_iload_n (pc := 40) C d_M_placeInBlock_40 rfl 1 rfl ?_
      refine r_isub (pc := 41) C d_M_placeInBlock_41 ?_
      exact r_iret (pc := 42) C d_M_placeInBlock_42 (by decide) (by decide) h
theorem c_M_placeInLines {l : Launch} (hl : l.stackTraces = false) {G : Gl} {a1 : Int32} {post : Int32 → Mem → Prop} {μ : Mem} (h : wM_placeInLines a1 post μ) : Ct l G i_M_placeInLines [.inr (.inl (some 17)), .inl a1] μ (poI post) noX := by
  refine ct_of hl (by decide) (Nat.le_of_ble_eq_true rfl) ?_
  intro K hKl C hE
  clear hl hKl
  replace C : Cx K G prog_8_method_9_code "LineCollectorModel" 6 { frames := 2, cells := 0, slots := 0, locals := 44 } (some .int) (poI post) noX := C
  show Rn K G 6 0 [(0, .inr (.inl (some 17))), (1, .inl a1)] [] μ 0 0
  have L_18 : ∀ (l2 : Int32) (l1 : Int32) (k : Int32 → Mem → Prop), (∀ (v3 : Int32) (μ : Mem), k v3 μ → Rn K G 6 43 [(0, .inr (.inl (some 17))), (1, .inl l1), (2, .inl l2), (3, .inl v3)] [] μ 0 0) → ∀ (n : Nat) (l3 : Int32) (μ : Mem), wM_placeInLines_18 l2 k n l3 μ → Rn K G 6 18 [(0, .inr (.inl (some 17))), (1, .inl l1), (2, .inl l2), (3, .inl l3)] [] μ 0 0 := by
    intro l2 l1 k hk n
    induction n with
    | zero => intro l3 μ h; exact h.elim
    | succ n ih =>
      intro l3 μ h
      unfold wM_placeInLines_18 at h
      refine r_iload_n (pc := 18) C d_M_placeInLines_18 rfl 3 rfl ?_
      refine r_bipush (pc := 19) C d_M_placeInLines_19 (v := 32) (by decide) ?_
      refine r_icmp_ge (tgt := 43) (pc := 21) C d_M_placeInLines_21 (by decide) ?_ ?_
      · intro hc; replace h := h.1 hc
        exact hk l3 μ h
      · intro hc; replace h := h.2 hc
        refine r_aload_n (pc := 24) C d_M_placeInLines_24 rfl 0 rfl ?_
        refine r_iload_n (pc := 25) C d_M_placeInLines_25 rfl 2 rfl ?_
        refine r_iload_n (pc := 26) C d_M_placeInLines_26 rfl 3 rfl ?_
        refine r_iadd (pc := 27) C d_M_placeInLines_27 ?_
        refine r_bipush (pc := 28) C d_M_placeInLines_28 (v := 32) (by decide) ?_
        refine r_irem (pc := 30) C d_M_placeInLines_30 (by decide) ?_
        refine r_cVi (pc := 31) (a' := 0) (b' := 0) (As := [.inl ((l2 + l3) - (l2 + l3) / 32 * 32)]) (ci := 6) C (c_M_isFree C.s h) o_M_isFree rfl (lay_O rfl) (k_763 C.w) rfl ⟨by decide, by decide, by decide, by decide⟩ rfl rfl (Nat.le_of_ble_eq_true rfl) d_M_placeInLines_31 rfl ?_
        intro r2 μ1 h
        refine r_if_ne (tgt := 43) (pc := 34) C d_M_placeInLines_34 (by decide) ?_ ?_
        · intro hc; replace h := h.2 hc
          exact hk l3 μ1 h
        · intro hc; replace h := h.1 hc
          refine r_iinc (pc := 37) (v := 1) (lv' := [(0, .inr (.inl (some 17))), (1, .inl l1), (2, .inl l2)]) C d_M_placeInLines_37 3 rfl (by decide) (by decide) rfl ?_
          refine r_goto (tgt := 18) (pc := 40) C d_M_placeInLines_40 (by decide) ?_
          refine r_sub [1, 2, 3, 0] rfl ?_
          exact ih (l3 + 1) μ1 h
  have L_65 : ∀ (l4 : Int32) (l1 : Int32) (k : Int32 → Mem → Prop), (∀ (v5 : Int32) (μ : Mem), k v5 μ → Rn K G 6 93 [(0, .inr (.inl (some 17))), (1, .inl l1), (4, .inl l4), (5, .inl v5)] [] μ 0 0) → ∀ (n : Nat) (l5 : Int32) (μ : Mem), wM_placeInLines_65 l4 k n l5 μ → Rn K G 6 65 [(0, .inr (.inl (some 17))), (1, .inl l1), (4, .inl l4), (5, .inl l5)] [] μ 0 0 := by
    intro l4 l1 k hk n
    induction n with
    | zero => intro l5 μ h; exact h.elim
    | succ n ih =>
      intro l5 μ h
      unfold wM_placeInLines_65 at h
      refine r_iload (pc := 65) C d_M_placeInLines_65 3 rfl ?_
      refine r_bipush (pc := 67) C d_M_placeInLines_67 (v := 8) (by decide) ?_
      refine r_idiv (pc := 69) C d_M_placeInLines_69 (by decide) ?_
      refine r_iload (pc := 70) C d_M_placeInLines_70 2 rfl ?_
      refine r_bipush (pc := 72) C d_M_placeInLines_72 (v := 8) (by decide) ?_
      refine r_idiv (pc := 74) C d_M_placeInLines_74 (by decide) ?_
      refine r_icmp_ne (tgt := 93) (pc := 75) C d_M_placeInLines_75 (by decide) ?_ ?_
      · intro hc; replace h := h.2 hc
        exact hk l5 μ h
      · intro hc; replace h := h.1 hc
        refine r_aload_n (pc := 78) C d_M_placeInLines_78 rfl 0 rfl ?_
        refine r_iload (pc := 79) C d_M_placeInLines_79 3 rfl ?_
        refine r_cVi (pc := 81) (a' := 0) (b' := 0) (As := [.inl l5]) (ci := 6) C (c_M_isFree C.s h) o_M_isFree rfl (lay_O rfl) (k_763 C.w) rfl ⟨by decide, by decide, by decide, by decide⟩ rfl rfl (Nat.le_of_ble_eq_true rfl) d_M_placeInLines_81 rfl ?_
        intro r6 μ5 h
        refine r_if_eq (tgt := 93) (pc := 84) C d_M_placeInLines_84 (by decide) ?_ ?_
        · intro hc; replace h := h.1 hc
          exact hk l5 μ5 h
        · intro hc; replace h := h.2 hc
          refine r_iinc (pc := 87) (v := 1) (lv' := [(0, .inr (.inl (some 17))), (1, .inl l1), (4, .inl l4)]) C d_M_placeInLines_87 3 rfl (by decide) (by decide) rfl ?_
          refine r_goto (tgt := 65) (pc := 90) C d_M_placeInLines_90 (by decide) ?_
          refine r_sub [1, 2, 3, 0] rfl ?_
          exact ih (l5 + 1) μ5 h
  have J_93 : ∀ (l1 : Int32) (l4 : Int32) (l5 : Int32) (μ : Mem), wM_placeInLines_93 l1 l4 l5 post μ → Rn K G 6 93 [(0, .inr (.inl (some 17))), (1, .inl l1), (4, .inl l4), (5, .inl l5)] [] μ 0 0 := by
    intro l1 l4 l5 μ h
    unfold wM_placeInLines_93 at h
    refine r_aload_n (pc := 93) C d_M_placeInLines_93 rfl 0 rfl ?_
    refine r_iload (pc := 94) C d_M_placeInLines_94 2 rfl ?_
    refine r_putI (pc := 96) (ci := 6) C rfl 13 (by decide) (k_663 C.w) rfl rfl p_I (lay_O rfl) d_M_placeInLines_96 ?_
    intro μ9 eμ9; replace h := h μ9 eμ9
    refine r_aload_n (pc := 99) C d_M_placeInLines_99 rfl 0 rfl ?_
    refine r_iload (pc := 100) C d_M_placeInLines_100 3 rfl ?_
    refine r_putI (pc := 102) (ci := 6) C rfl 14 (by decide) (k_664 C.w) rfl rfl p_I (lay_O rfl) d_M_placeInLines_102 ?_
    intro μ10 eμ10; replace h := h μ10 eμ10
    refine r_aload_n (pc := 105) C d_M_placeInLines_105 rfl 0 rfl ?_
    refine r_iconst (pc := 106) C d_M_placeInLines_106 (v := 4) (by decide) ?_
    refine r_iload (pc := 107) C d_M_placeInLines_107 2 rfl ?_
    refine r_imul (pc := 109) C d_M_placeInLines_109 ?_
    refine r_iload_n (pc := 110) C d_M_placeInLines_110 rfl 1 rfl ?_
    refine r_iadd (pc := 111) C d_M_placeInLines_111 ?_
    refine r_putI (pc := 112) (ci := 6) C rfl 15 (by decide) (k_665 C.w) rfl rfl p_I (lay_O rfl) d_M_placeInLines_112 ?_
    intro μ11 eμ11; replace h := h μ11 eμ11
    refine r_iconst (pc := 115) C d_M_placeInLines_115 (v := 4) (by decide) ?_
    refine r_iload (pc := 116) C d_M_placeInLines_116 2 rfl ?_
    refine r_imul (pc := 118) C d_M_placeInLines_118 ?_
    exact r_iret (pc := 119) C d_M_placeInLines_119 (by decide) (by decide) h
  have J_43 : ∀ (l1 : Int32) (l2 : Int32) (l3 : Int32) (μ : Mem), wM_placeInLines_43 l1 l2 l3 post μ → Rn K G 6 43 [(0, .inr (.inl (some 17))), (1, .inl l1), (2, .inl l2), (3, .inl l3)] [] μ 0 0 := by
    intro l1 l2 l3 μ h
    unfold wM_placeInLines_43 at h
    refine r_iload_n (pc := 43) C d_M_placeInLines_43 rfl 3 rfl ?_
    refine r_bipush (pc := 44) C d_M_placeInLines_44 (v := 32) (by decide) ?_
    refine r_icmp_ne (tgt := 51) (pc := 46) C d_M_placeInLines_46 (by decide) ?_ ?_
    · intro hc; replace h := h.2 hc
      refine r_iload_n (pc := 51) C d_M_placeInLines_51 rfl 2 rfl ?_
      refine r_iload_n (pc := 52) C d_M_placeInLines_52 rfl 3 rfl ?_
      refine r_iadd (pc := 53) C d_M_placeInLines_53 ?_
      refine r_bipush (pc := 54) C d_M_placeInLines_54 (v := 32) (by decide) ?_
      refine r_irem (pc := 56) C d_M_placeInLines_56 (by decide) ?_
      refine r_istore (pc := 57) (lv' := [(0, .inr (.inl (some 17))), (1, .inl l1), (2, .inl l2), (3, .inl l3)]) C d_M_placeInLines_57 (by decide) rfl ?_
      refine r_iload (pc := 59) C d_M_placeInLines_59 0 rfl ?_
      refine r_iconst (pc := 61) C d_M_placeInLines_61 (v := 1) (by decide) ?_
      refine r_iadd (pc := 62) C d_M_placeInLines_62 ?_
      refine r_istore (pc := 63) (lv' := [(4, .inl ((l2 + l3) - (l2 + l3) / 32 * 32)), (0, .inr (.inl (some 17))), (1, .inl l1), (2, .inl l2), (3, .inl l3)]) C d_M_placeInLines_63 (by decide) rfl ?_
      obtain ⟨n12, h⟩ := h
      refine r_sub [2, 3, 1, 0] rfl ?_
      refine L_65 ((l2 + l3) - (l2 + l3) / 32 * 32) l1 _ ?_ n12 (((l2 + l3) - (l2 + l3) / 32 * 32) + 1) μ h
      intro v8 μ7 h
      exact J_93 l1 ((l2 + l3) - (l2 + l3) / 32 * 32) v8 μ7 h
    · intro hc; replace h := h.1 hc
      refine r_iconst (pc := 49) C d_M_placeInLines_49 (v := (-1)) (by decide) ?_
      exact r_iret (pc := 50) C d_M_placeInLines_50 (by decide) (by decide) h
  have J_15 : ∀ (l1 : Int32) (t0 : Int32) (μ : Mem), wM_placeInLines_15 l1 t0 post μ → Rn K G 6 15 [(0, .inr (.inl (some 17))), (1, .inl l1)] [.int t0] μ 0 0 := by
    intro l1 t0 μ h
    unfold wM_placeInLines_15 at h
    refine r_istore_n (pc := 15) (lv' := [(0, .inr (.inl (some 17))), (1, .inl l1)]) C d_M_placeInLines_15 rfl (by decide) rfl ?_
    refine r_iconst (pc := 16) C d_M_placeInLines_16 (v := 0) (by decide) ?_
    refine r_istore_n (pc := 17) (lv' := [(2, .inl t0), (0, .inr (.inl (some 17))), (1, .inl l1)]) C d_M_placeInLines_17 rfl (by decide) rfl ?_
    obtain ⟨n13, h⟩ := h
    refine r_sub [2, 3, 1, 0] rfl ?_
    refine L_18 t0 l1 _ ?_ n13 0 μ h
    intro v4 μ3 h
    exact J_43 l1 t0 v4 μ3 h
  unfold wM_placeInLines at h
  refine r_aload_n (pc := 0) C d_M_placeInLines_0 rfl 0 rfl ?_
  refine r_getI (pc := 1) (ci := 6) C rfl 13 (by decide) (k_663 C.w) rfl (lay_O rfl) d_M_placeInLines_1 ?_
  refine r_if_ge (tgt := 11) (pc := 4) C d_M_placeInLines_4 (by decide) ?_ ?_
  · intro hc; replace h := h.1 hc
    refine r_aload_n (pc := 11) C d_M_placeInLines_11 rfl 0 rfl ?_
    refine r_getI (pc := 12) (ci := 6) C rfl 14 (by decide) (k_664 C.w) rfl (lay_O rfl) d_M_placeInLines_12 ?_
    exact J_15 a1 (mI μ 17 14) μ h
  · intro hc; replace h := h.2 hc
    refine r_iconst (pc := 7) C d_M_placeInLines_7 (v := 0) (by decide) ?_
    refine r_goto (tgt := 15) (pc := 8) C d_M_placeInLines_8 (by decide) ?_
    exact J_15 a1 0 μ h
theorem c_M_place {l : Launch} (hl : l.stackTraces = false) {G : Gl} {a1 : Int32} {post : Int32 → Mem → Prop} {μ : Mem} (h : wM_place a1 post μ) : Ct l G i_M_place [.inr (.inl (some 17)), .inl a1] μ (poI post) noX := by
  refine ct_of hl (by decide) (Nat.le_of_ble_eq_true rfl) ?_
  intro K hKl C hE
  clear hl hKl
  replace C : Cx K G prog_8_method_8_code "LineCollectorModel" 2 { frames := 4, cells := 0, slots := 0, locals := 89 } (some .int) (poI post) noX := C
  show Rn K G 2 0 [(0, .inr (.inl (some 17))), (1, .inl a1)] [] μ 0 0
  have J_39 : ∀ (l1 : Int32) (μ : Mem), wM_place_39 l1 post μ → Rn K G 2 39 [(0, .inr (.inl (some 17))), (1, .inl l1)] [] μ 0 0 := by
    intro l1 μ h
    unfold wM_place_39 at h
    refine r_iload_n (pc := 39) C d_M_place_39 rfl 1 rfl ?_
    refine r_iconst (pc := 40) C d_M_place_40 (v := 4) (by decide) ?_
    refine r_icmp_gt (tgt := 52) (pc := 41) C d_M_place_41 (by decide) ?_ ?_
    · intro hc; replace h := h.1 hc
      refine r_aload_n (pc := 52) C d_M_place_52 rfl 0 rfl ?_
      refine r_iload_n (pc := 53) C d_M_place_53 rfl 1 rfl ?_
      refine r_cVi (pc := 54) (a' := 0) (b' := 0) (As := [.inl l1]) (ci := 6) C (c_M_placeInBlock C.s h) o_M_placeInBlock rfl (lay_O rfl) (k_775 C.w) rfl ⟨by decide, by decide, by decide, by decide⟩ rfl rfl (Nat.le_of_ble_eq_true rfl) d_M_place_54 rfl ?_
      intro r2 μ1 h
      exact r_iret (pc := 57) C d_M_place_57 (by decide) (by decide) h
    · intro hc; replace h := h.2 hc
      refine r_aload_n (pc := 44) C d_M_place_44 rfl 0 rfl ?_
      refine r_iload_n (pc := 45) C d_M_place_45 rfl 1 rfl ?_
      refine r_cVi (pc := 46) (a' := 0) (b' := 0) (As := [.inl l1]) (ci := 6) C (c_M_placeInLines C.s h) o_M_placeInLines rfl (lay_O rfl) (k_759 C.w) rfl ⟨by decide, by decide, by decide, by decide⟩ rfl rfl (Nat.le_of_ble_eq_true rfl) d_M_place_46 rfl ?_
      intro r4 μ3 h
      refine r_goto (tgt := 57) (pc := 49) C d_M_place_49 (by decide) ?_
      exact r_iret (pc := 57) C d_M_place_57 (by decide) (by decide) h
  unfold wM_place at h
  refine r_aload_n (pc := 0) C d_M_place_0 rfl 0 rfl ?_
  refine r_getI (pc := 1) (ci := 6) C rfl 13 (by decide) (k_663 C.w) rfl (lay_O rfl) d_M_place_1 ?_
  refine r_if_lt (tgt := 39) (pc := 4) C d_M_place_4 (by decide) ?_ ?_
  · intro hc; replace h := h.1 hc
    exact J_39 a1 μ h
  · intro hc; replace h := h.2 hc
    refine r_aload_n (pc := 7) C d_M_place_7 rfl 0 rfl ?_
    refine r_getI (pc := 8) (ci := 6) C rfl 15 (by decide) (k_665 C.w) rfl (lay_O rfl) d_M_place_8 ?_
    refine r_iload_n (pc := 11) C d_M_place_11 rfl 1 rfl ?_
    refine r_iadd (pc := 12) C d_M_place_12 ?_
    refine r_iconst (pc := 13) C d_M_place_13 (v := 4) (by decide) ?_
    refine r_aload_n (pc := 14) C d_M_place_14 rfl 0 rfl ?_
    refine r_getI (pc := 15) (ci := 6) C rfl 14 (by decide) (k_664 C.w) rfl (lay_O rfl) d_M_place_15 ?_
    refine r_imul (pc := 18) C d_M_place_18 ?_
    refine r_icmp_gt (tgt := 39) (pc := 19) C d_M_place_19 (by decide) ?_ ?_
    · intro hc; replace h := h.1 hc
      exact J_39 a1 μ h
    · intro hc; replace h := h.2 hc
      refine r_aload_n (pc := 22) C d_M_place_22 rfl 0 rfl ?_
      refine r_aload_n (pc := 23) C d_M_place_23 rfl 0 rfl ?_
      refine r_getI (pc := 24) (ci := 6) C rfl 15 (by decide) (k_665 C.w) rfl (lay_O rfl) d_M_place_24 ?_
      refine r_iload_n (pc := 27) C d_M_place_27 rfl 1 rfl ?_
      refine r_iadd (pc := 28) C d_M_place_28 ?_
      refine r_putI (pc := 29) (ci := 6) C rfl 15 (by decide) (k_665 C.w) rfl rfl p_I (lay_O rfl) d_M_place_29 ?_
      intro μ5 eμ5; replace h := h μ5 eμ5
      refine r_aload_n (pc := 32) C d_M_place_32 rfl 0 rfl ?_
      refine r_getI (pc := 33) (ci := 6) C rfl 15 (by decide) (k_665 C.w) rfl (lay_O rfl) d_M_place_33 ?_
      refine r_iload_n (pc := 36) C d_M_place_36 rfl 1 rfl ?_
      refine r_isub (pc := 37) C d_M_place_37 ?_
      exact r_iret (pc := 38) C d_M_place_38 (by decide) (by decide) h
theorem c_M_objectAt {l : Launch} (hl : l.stackTraces = false) {G : Gl} {a1 : Int32} {post : Int32 → Mem → Prop} {μ : Mem} (h : wM_objectAt a1 post μ) : Ct l G i_M_objectAt [.inr (.inl (some 17)), .inl a1] μ (poI post) noX := by
  refine ct_of hl (by decide) (Nat.le_of_ble_eq_true rfl) ?_
  intro K hKl C hE
  clear hl hKl
  replace C : Cx K G prog_8_method_11_code "LineCollectorModel" 2 { frames := 0, cells := 0, slots := 0, locals := 0 } (some .int) (poI post) noX := C
  show Rn K G 2 0 [(0, .inr (.inl (some 17))), (1, .inl a1)] [] μ 0 0
  unfold wM_objectAt at h
  refine r_iload_n (pc := 0) C d_M_objectAt_0 rfl 1 rfl ?_
  refine r_if_lt (tgt := 19) (pc := 1) C d_M_objectAt_1 (by decide) ?_ ?_
  · intro hc; replace h := h.1 hc
    refine r_iconst (pc := 19) C d_M_objectAt_19 (v := (-1)) (by decide) ?_
    exact r_iret (pc := 20) C d_M_objectAt_20 (by decide) (by decide) h
  · intro hc; replace h := h.2 hc
    refine r_iload_n (pc := 4) C d_M_objectAt_4 rfl 1 rfl ?_
    refine r_bipush (pc := 5) C d_M_objectAt_5 (v := 127) (by decide) ?_
    refine r_icmp_gt (tgt := 19) (pc := 7) C d_M_objectAt_7 (by decide) ?_ ?_
    · intro hc; replace h := h.1 hc
      refine r_iconst (pc := 19) C d_M_objectAt_19 (v := (-1)) (by decide) ?_
      exact r_iret (pc := 20) C d_M_objectAt_20 (by decide) (by decide) h
    · intro hc; replace h := h.2 hc
      refine r_aload_n (pc := 10) C d_M_objectAt_10 rfl 0 rfl ?_
      refine r_getR (pc := 11) (ci := 6) C rfl 1 (by decide) (k_651 C.w) rfl (lay_O rfl) d_M_objectAt_11 ?_
      refine r_iload_n (pc := 14) C d_M_objectAt_14 rfl 1 rfl ?_
      obtain ⟨b1, h⟩ := h
      refine r_iald (pc := 15) C (lay_A rfl) b1 d_M_objectAt_15 ?_
      refine r_if_ge (tgt := 21) (pc := 16) C d_M_objectAt_16 (by decide) ?_ ?_
      · intro hc; replace h := h.1 hc
        refine r_aload_n (pc := 21) C d_M_objectAt_21 rfl 0 rfl ?_
        refine r_getR (pc := 22) (ci := 6) C rfl 3 (by decide) (k_653 C.w) rfl (lay_O rfl) d_M_objectAt_22 ?_
        refine r_aload_n (pc := 25) C d_M_objectAt_25 rfl 0 rfl ?_
        refine r_getR (pc := 26) (ci := 6) C rfl 1 (by decide) (k_651 C.w) rfl (lay_O rfl) d_M_objectAt_26 ?_
        refine r_iload_n (pc := 29) C d_M_objectAt_29 rfl 1 rfl ?_
        refine r_iald (pc := 30) C (lay_A rfl) b1 d_M_objectAt_30 ?_
        obtain ⟨b2, h⟩ := h
        refine r_iald (pc := 31) C (lay_A rfl) b2 d_M_objectAt_31 ?_
        refine r_iload_n (pc := 32) C d_M_objectAt_32 rfl 1 rfl ?_
        refine r_icmp_ne (tgt := 45) (pc := 33) C d_M_objectAt_33 (by decide) ?_ ?_
        · intro hc; replace h := h.2 hc
          refine r_iconst (pc := 45) C d_M_objectAt_45 (v := (-1)) (by decide) ?_
          exact r_iret (pc := 46) C d_M_objectAt_46 (by decide) (by decide) h
        · intro hc; replace h := h.1 hc
          refine r_aload_n (pc := 36) C d_M_objectAt_36 rfl 0 rfl ?_
          refine r_getR (pc := 37) (ci := 6) C rfl 1 (by decide) (k_651 C.w) rfl (lay_O rfl) d_M_objectAt_37 ?_
          refine r_iload_n (pc := 40) C d_M_objectAt_40 rfl 1 rfl ?_
          refine r_iald (pc := 41) C (lay_A rfl) b1 d_M_objectAt_41 ?_
          refine r_goto (tgt := 46) (pc := 42) C d_M_objectAt_42 (by decide) ?_
          exact r_iret (pc := 46) C d_M_objectAt_46 (by decide) (by decide) h
      · intro hc; replace h := h.2 hc
        refine r_iconst (pc := 19) C d_M_objectAt_19 (v := (-1)) (by decide) ?_
        exact r_iret (pc := 20) C d_M_objectAt_20 (by decide) (by decide) h
