/-! The machine meets the predicates (written by a program) -/
theorem c_L_object {l : Launch} (hl : l.stackTraces = false) {G : Gl} {a2 : Int32} {a3 : Int32} {post : Int32 → Mem → Prop} {μ : Mem} (h : wL_object a2 a3 post μ) : CtW l G i_L_object h_L_object [.inr (.inl (some 0)), .inl a2, .inl a3, .inr (.inl (some 34))] μ (poI post) noX := by
  refine ctw_of hl (by decide) (Nat.le_of_ble_eq_true rfl) ?_
  intro K hKl C hE
  clear hl hKl
  replace C : Cx K G method_12_code "LineCollectorLaw" 5 { frames := 7, cells := 1, slots := 6, locals := 104 } (some .int) (poI post) noX := C
  show Rn K G 5 0 [(0, .inr (.inl (some 0))), (1, .inl a2), (2, .inl a3), (3, .inr (.inl (some 34)))] [] μ 0 0
  unfold wL_object at h
  refine r_aload_n (pc := 0) C d_L_object_0 rfl 3 rfl ?_
  refine r_iconst (pc := 1) C d_L_object_1 (v := 0) (by decide) ?_
  refine r_aload_n (pc := 2) C d_L_object_2 rfl 0 rfl ?_
  refine r_iload_n (pc := 3) C d_L_object_3 rfl 1 rfl ?_
  refine r_iload_n (pc := 4) C d_L_object_4 rfl 2 rfl ?_
  refine r_cVci (pc := 5) (a' := 1) (b' := 6) (As := [.inl a2, .inl a3]) (ci := 0) C hE (c_C_object C.s h) o_C_object rfl (lay_O rfl) (k_616 C.w) rfl ⟨by decide, by decide, by decide, by decide⟩ rfl rfl (Nat.le_of_ble_eq_true rfl) d_L_object_5 rfl ?_ ?_
  · intro r2 μ1 h
    refine r_i2l (pc := 8) C d_L_object_8 ?_
    obtain ⟨b3, h⟩ := h
    refine r_last (pc := 9) C (lay_A rfl) b3 d_L_object_9 ?_
    intro μ4 eμ4; replace h := h μ4 eμ4
    refine r_goto (tgt := 21) (pc := 10) C d_L_object_10 (by decide) ?_
    refine r_iconst (pc := 21) C d_L_object_21 (v := 0) (by decide) ?_
    exact r_iret (pc := 22) C d_L_object_22 (by decide) (by decide) h
  · intro q5 μ6 h
    by_cases hq0 : q5 = 7
    · subst hq0; replace h := h.1 rfl
      refine ⟨"java/lang/IllegalArgumentException", 13, rfl, ⟨⟨by decide, by decide, by decide⟩, _, k_349 C.w, Or.inl ⟨k_360 C.w, rfl⟩⟩, fun z7 => ?_⟩
      refine r_astore (pc := 13) (lv' := [(0, .inr (.inl (some 0))), (1, .inl a2), (2, .inl a3), (3, .inr (.inl (some 34)))]) C d_L_object_13 (by decide) rfl ?_
      refine r_iconst (pc := 15) C d_L_object_15 (v := 1) (by decide) ?_
      exact r_iret (pc := 16) C d_L_object_16 (by decide) (by decide) h
    by_cases hq1 : q5 = 11
    · subst hq1; replace h := h.2.1 rfl
      refine ⟨"java/util/NoSuchElementException", 17, rfl, ⟨⟨by decide, by decide, by decide⟩, _, k_349 C.w, Or.inr ⟨C.nc 5 rfl, ⟨⟨by decide, by decide, by decide⟩, _, k_589 C.w, Or.inl ⟨k_600 C.w, rfl⟩⟩⟩⟩, fun z8 => ?_⟩
      refine r_astore (pc := 17) (lv' := [(0, .inr (.inl (some 0))), (1, .inl a2), (2, .inl a3), (3, .inr (.inl (some 34)))]) C d_L_object_17 (by decide) rfl ?_
      refine r_iconst (pc := 19) C d_L_object_19 (v := 2) (by decide) ?_
      exact r_iret (pc := 20) C d_L_object_20 (by decide) (by decide) h
    exact (h.2.2 hq0 hq1).elim
theorem c_L_line {l : Launch} (hl : l.stackTraces = false) {G : Gl} {a2 : Int32} {post : Int32 → Mem → Prop} {μ : Mem} (h : wL_line a2 post μ) : CtW l G i_L_line h_L_line [.inr (.inl (some 0)), .inl a2, .inr (.inl (some 34))] μ (poI post) noX := by
  refine ctw_of hl (by decide) (Nat.le_of_ble_eq_true rfl) ?_
  intro K hKl C hE
  clear hl hKl
  replace C : Cx K G method_13_code "LineCollectorLaw" 4 { frames := 7, cells := 1, slots := 6, locals := 102 } (some .int) (poI post) noX := C
  show Rn K G 4 0 [(0, .inr (.inl (some 0))), (1, .inl a2), (2, .inr (.inl (some 34)))] [] μ 0 0
  unfold wL_line at h
  refine r_aload_n (pc := 0) C d_L_line_0 rfl 2 rfl ?_
  refine r_iconst (pc := 1) C d_L_line_1 (v := 0) (by decide) ?_
  refine r_aload_n (pc := 2) C d_L_line_2 rfl 0 rfl ?_
  refine r_iload_n (pc := 3) C d_L_line_3 rfl 1 rfl ?_
  refine r_cVci (pc := 4) (a' := 1) (b' := 6) (As := [.inl a2]) (ci := 0) C hE (c_C_line C.s h) o_C_line rfl (lay_O rfl) (k_623 C.w) rfl ⟨by decide, by decide, by decide, by decide⟩ rfl rfl (Nat.le_of_ble_eq_true rfl) d_L_line_4 rfl ?_ ?_
  · intro r2 μ1 h
    refine r_i2l (pc := 7) C d_L_line_7 ?_
    obtain ⟨b3, h⟩ := h
    refine r_last (pc := 8) C (lay_A rfl) b3 d_L_line_8 ?_
    intro μ4 eμ4; replace h := h μ4 eμ4
    refine r_goto (tgt := 15) (pc := 9) C d_L_line_9 (by decide) ?_
    refine r_iconst (pc := 15) C d_L_line_15 (v := 0) (by decide) ?_
    exact r_iret (pc := 16) C d_L_line_16 (by decide) (by decide) h
  · intro q5 μ6 h
    by_cases hq0 : q5 = 9
    · subst hq0; replace h := h.1 rfl
      refine ⟨"java/lang/IndexOutOfBoundsException", 12, rfl, ⟨⟨by decide, by decide, by decide⟩, _, k_508 C.w, Or.inl ⟨k_538 C.w, rfl⟩⟩, fun z7 => ?_⟩
      refine r_astore_n (pc := 12) (lv' := [(0, .inr (.inl (some 0))), (1, .inl a2), (2, .inr (.inl (some 34)))]) C d_L_line_12 rfl (by decide) rfl ?_
      refine r_iconst (pc := 13) C d_L_line_13 (v := 1) (by decide) ?_
      exact r_iret (pc := 14) C d_L_line_14 (by decide) (by decide) h
    exact (h.2 hq0).elim
theorem c_L_figure {l : Launch} (hl : l.stackTraces = false) {G : Gl} {a2 : Int32} {post : Int32 → Mem → Prop} {μ : Mem} (h : wL_figure a2 post μ) : CtW l G i_L_figure h_L_figure [.inr (.inl (some 0)), .inl a2, .inr (.inl (some 34))] μ (poI post) noX := by
  refine ctw_of hl (by decide) (Nat.le_of_ble_eq_true rfl) ?_
  intro K hKl C hE
  clear hl hKl
  replace C : Cx K G method_14_code "LineCollectorLaw" 4 { frames := 7, cells := 1, slots := 6, locals := 102 } (some .int) (poI post) noX := C
  show Rn K G 4 0 [(0, .inr (.inl (some 0))), (1, .inl a2), (2, .inr (.inl (some 34)))] [] μ 0 0
  unfold wL_figure at h
  refine r_aload_n (pc := 0) C d_L_figure_0 rfl 2 rfl ?_
  refine r_iconst (pc := 1) C d_L_figure_1 (v := 0) (by decide) ?_
  refine r_aload_n (pc := 2) C d_L_figure_2 rfl 0 rfl ?_
  refine r_iload_n (pc := 3) C d_L_figure_3 rfl 1 rfl ?_
  refine r_cVci (pc := 4) (a' := 1) (b' := 6) (As := [.inl a2]) (ci := 0) C hE (c_C_figure C.s h) o_C_figure rfl (lay_O rfl) (k_632 C.w) rfl ⟨by decide, by decide, by decide, by decide⟩ rfl rfl (Nat.le_of_ble_eq_true rfl) d_L_figure_4 rfl ?_ ?_
  · intro r2 μ1 h
    refine r_i2l (pc := 7) C d_L_figure_7 ?_
    obtain ⟨b3, h⟩ := h
    refine r_last (pc := 8) C (lay_A rfl) b3 d_L_figure_8 ?_
    intro μ4 eμ4; replace h := h μ4 eμ4
    refine r_goto (tgt := 15) (pc := 9) C d_L_figure_9 (by decide) ?_
    refine r_iconst (pc := 15) C d_L_figure_15 (v := 0) (by decide) ?_
    exact r_iret (pc := 16) C d_L_figure_16 (by decide) (by decide) h
  · intro q5 μ6 h
    by_cases hq0 : q5 = 7
    · subst hq0; replace h := h.1 rfl
      refine ⟨"java/lang/IllegalArgumentException", 12, rfl, ⟨⟨by decide, by decide, by decide⟩, _, k_349 C.w, Or.inl ⟨k_360 C.w, rfl⟩⟩, fun z7 => ?_⟩
      refine r_astore_n (pc := 12) (lv' := [(0, .inr (.inl (some 0))), (1, .inl a2), (2, .inr (.inl (some 34)))]) C d_L_figure_12 rfl (by decide) rfl ?_
      refine r_iconst (pc := 13) C d_L_figure_13 (v := 1) (by decide) ?_
      exact r_iret (pc := 14) C d_L_figure_14 (by decide) (by decide) h
    exact (h.2 hq0).elim
