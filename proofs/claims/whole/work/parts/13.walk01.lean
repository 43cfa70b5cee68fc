/-! The machine meets the predicates (written by a program) -/
theorem c_C_remove {l : Launch} (hl : l.stackTraces = false) {G : Gl} (hg : gf G = true) {a1 : Nat} {post : Mem → Prop} {μ : Mem} (h : wC_remove a1 post μ) : Ct l G i_C_remove [.inr (.inl (some 0)), .inr (.inl (some a1))] μ (poV post) noX := by
  refine ct_of hl (by decide) (Nat.le_of_ble_eq_true rfl) ?_
  intro K hKl C Q hE
  clear hl hKl
  replace C : Cx K G prog_1_method_24_code "LineCollector" 2 { frames := 1, cells := 0, slots := 0, locals := 23 } := C
  replace Q : Cq K G { frames := 1, cells := 0, slots := 0, locals := 23 } (none) (poV post) noX := Q
  show Rn K G 2 0 [(0, .inr (.inl (some 0))), (1, .inr (.inl (some a1)))] [] μ 0 0
  unfold wC_remove at h
  refine r_aload_n (pc := 0) C d_C_remove_0 rfl 0 rfl ?_
  refine r_getR (pc := 1) (ci := 0) C rfl 2 (by decide) (k_108 C.w) rfl (lay_O hg rfl) d_C_remove_1 ?_
  refine r_aload_n (pc := 4) C d_C_remove_4 rfl 1 rfl ?_
  obtain ⟨o1, h⟩ := h
  refine r_getI (pc := 5) (ci := 5) C rfl 4 (by decide) (k_470 C.w) rfl (ok_O o1) d_C_remove_5 ?_
  refine r_null (pc := 8) C d_C_remove_8 ?_
  obtain ⟨b2, h⟩ := h
  refine r_aast (pc := 9) C (lay_A hg rfl) b2 d_C_remove_9 (fun y hy => by cases hy) ?_
  intro μ3 eμ3; replace h := h μ3 eμ3
  refine r_aload_n (pc := 10) C d_C_remove_10 rfl 0 rfl ?_
  refine r_getR (pc := 11) (ci := 0) C rfl 3 (by decide) (k_109 C.w) rfl (lay_O hg rfl) d_C_remove_11 ?_
  refine r_aload_n (pc := 14) C d_C_remove_14 rfl 1 rfl ?_
  refine r_getI (pc := 15) (ci := 5) C rfl 4 (by decide) (k_470 C.w) rfl (ok_O (ok_t eμ3 o1)) d_C_remove_15 ?_
  refine r_aload_n (pc := 18) C d_C_remove_18 rfl 1 rfl ?_
  refine r_getI (pc := 19) (ci := 5) C rfl 0 (by decide) (k_461 C.w) rfl (ok_O (ok_t eμ3 o1)) d_C_remove_19 ?_
  refine r_cVv (pc := 22) (a' := 0) (b' := 0) (As := [.inl (mI μ3 a1 4), .inl (mI μ3 a1 0)]) (ci := 1) C (c_P_vacate C.s hg h) o_P_vacate rfl (lay_O hg rfl) (k_161 C.w) rfl ⟨by decide, by decide, by decide, by decide⟩ rfl rfl (Nat.le_of_ble_eq_true rfl) d_C_remove_22 rfl ?_
  intro μ4 h
  exact r_vret (pc := 25) C Q d_C_remove_25 (by decide) (by decide) h
theorem c_W_add {l : Launch} (hl : l.stackTraces = false) {G : Gl} (hg : gf G = true) {x : Nat} {a1 : Option Nat} {post : Mem → Prop} {μ : Mem} (h : wW_add x a1 post μ) : Ct l G i_W_add [.inr (.inl (some x)), .inr (.inl a1)] μ (poV post) noX := by
  refine ct_of hl (by decide) (Nat.le_of_ble_eq_true rfl) ?_
  intro K hKl C Q hE
  clear hl hKl
  replace C : Cx K G prog_5_method_2_code "LineCollector$Row" 2 { frames := 0, cells := 0, slots := 0, locals := 0 } := C
  replace Q : Cq K G { frames := 0, cells := 0, slots := 0, locals := 0 } (none) (poV post) noX := Q
  show Rn K G 2 0 [(0, .inr (.inl (some x))), (1, .inr (.inl a1))] [] μ 0 0
  unfold wW_add at h
  refine r_aload_n (pc := 0) C d_W_add_0 rfl 0 rfl ?_
  obtain ⟨o1, h⟩ := h
  refine r_getI (pc := 1) (ci := 4) C rfl 2 (by decide) (k_97 C.w) rfl (ok_O o1) d_W_add_1 ?_
  refine r_sipush (pc := 4) C d_W_add_4 (v := 262) (by decide) ?_
  refine r_icmp_ge (tgt := 39) (pc := 7) C d_W_add_7 (by decide) ?_ ?_
  · intro hc; replace h := h.1 hc
    exact r_vret (pc := 39) C Q d_W_add_39 (by decide) (by decide) h
  · intro hc; replace h := h.2 hc
    refine r_aload_n (pc := 10) C d_W_add_10 rfl 0 rfl ?_
    refine r_getR (pc := 11) (ci := 4) C rfl 0 (by decide) (k_95 C.w) rfl (ok_O o1) d_W_add_11 ?_
    refine r_aload_n (pc := 14) C d_W_add_14 rfl 0 rfl ?_
    refine r_getI (pc := 15) (ci := 4) C rfl 1 (by decide) (k_96 C.w) rfl (ok_O o1) d_W_add_15 ?_
    refine r_aload_n (pc := 18) C d_W_add_18 rfl 0 rfl ?_
    refine r_getI (pc := 19) (ci := 4) C rfl 2 (by decide) (k_97 C.w) rfl (ok_O o1) d_W_add_19 ?_
    refine r_iadd (pc := 22) C d_W_add_22 ?_
    refine r_sipush (pc := 23) C d_W_add_23 (v := 262) (by decide) ?_
    refine r_irem (pc := 26) C d_W_add_26 (by decide) ?_
    refine r_aload_n (pc := 27) C d_W_add_27 rfl 1 rfl ?_
    obtain ⟨o2, h⟩ := h
    obtain ⟨b3, h⟩ := h
    obtain ⟨o5, h⟩ := h
    refine r_aast (pc := 28) C (ok_A o2) b3 d_W_add_28 o5 ?_
    intro μ4 eμ4; replace h := h μ4 eμ4
    refine r_aload_n (pc := 29) C d_W_add_29 rfl 0 rfl ?_
    refine r_dupR (pc := 30) C d_W_add_30 ?_
    refine r_getI (pc := 31) (ci := 4) C rfl 2 (by decide) (k_97 C.w) rfl (ok_O (ok_t eμ4 o1)) d_W_add_31 ?_
    refine r_iconst (pc := 34) C d_W_add_34 (v := 1) (by decide) ?_
    refine r_iadd (pc := 35) C d_W_add_35 ?_
    refine r_putI (pc := 36) (ci := 4) C rfl 2 (by decide) (k_97 C.w) rfl rfl p_I (ok_O (ok_t eμ4 o1)) d_W_add_36 ?_
    intro μ6 eμ6; replace h := h μ6 eμ6
    exact r_vret (pc := 39) C Q d_W_add_39 (by decide) (by decide) h
theorem c_I_isOld {l : Launch} (hl : l.stackTraces = false) {G : Gl} (hg : gf G = true) {x : Nat} {post : Int32 → Mem → Prop} {μ : Mem} (h : wI_isOld x post μ) : Ct l G i_I_isOld [.inr (.inl (some x))] μ (poI post) noX := by
  refine ct_of hl (by decide) (Nat.le_of_ble_eq_true rfl) ?_
  intro K hKl C Q hE
  clear hl hKl
  replace C : Cx K G prog_2_method_3_code "LineCollector$Item" 1 { frames := 0, cells := 0, slots := 0, locals := 0 } := C
  replace Q : Cq K G { frames := 0, cells := 0, slots := 0, locals := 0 } (some .boolean) (poI post) noX := Q
  show Rn K G 1 0 [(0, .inr (.inl (some x)))] [] μ 0 0
  unfold wI_isOld at h
  refine r_aload_n (pc := 0) C d_I_isOld_0 rfl 0 rfl ?_
  obtain ⟨o1, h⟩ := h
  refine r_getI (pc := 1) (ci := 5) C rfl 5 (by decide) (k_471 C.w) rfl (ok_O o1) d_I_isOld_1 ?_
  refine r_if_le (tgt := 11) (pc := 4) C d_I_isOld_4 (by decide) ?_ ?_
  · intro hc; replace h := h.1 hc
    refine r_iconst (pc := 11) C d_I_isOld_11 (v := 0) (by decide) ?_
    exact r_zret (pc := 12) C Q (Or.inl rfl) d_I_isOld_12 (by decide) (by decide) h
  · intro hc; replace h := h.2 hc
    refine r_iconst (pc := 7) C d_I_isOld_7 (v := 1) (by decide) ?_
    refine r_goto (tgt := 12) (pc := 8) C d_I_isOld_8 (by decide) ?_
    exact r_zret (pc := 12) C Q (Or.inr rfl) d_I_isOld_12 (by decide) (by decide) h
theorem c_I_isWhite {l : Launch} (hl : l.stackTraces = false) {G : Gl} (hg : gf G = true) {x : Nat} {post : Int32 → Mem → Prop} {μ : Mem} (h : wI_isWhite x post μ) : Ct l G i_I_isWhite [.inr (.inl (some x))] μ (poI post) noX := by
  refine ct_of hl (by decide) (Nat.le_of_ble_eq_true rfl) ?_
  intro K hKl C Q hE
  clear hl hKl
  replace C : Cx K G prog_2_method_4_code "LineCollector$Item" 1 { frames := 1, cells := 0, slots := 0, locals := 20 } := C
  replace Q : Cq K G { frames := 1, cells := 0, slots := 0, locals := 20 } (some .boolean) (poI post) noX := Q
  show Rn K G 1 0 [(0, .inr (.inl (some x)))] [] μ 0 0
  unfold wI_isWhite at h
  refine r_aload_n (pc := 0) C d_I_isWhite_0 rfl 0 rfl ?_
  obtain ⟨o1, h⟩ := h
  refine r_cVi (pc := 1) (a' := 0) (b' := 0) (As := []) (ci := 5) C (c_I_isOld C.s hg h) o_I_isOld rfl (ok_O o1) (k_177 C.w) rfl ⟨by decide, by decide, by decide, by decide⟩ rfl rfl (Nat.le_of_ble_eq_true rfl) d_I_isWhite_1 rfl ?_
  intro r3 μ2 h
  refine r_if_eq (tgt := 18) (pc := 4) C d_I_isWhite_4 (by decide) ?_ ?_
  · intro hc; replace h := h.1 hc
    refine r_iconst (pc := 18) C d_I_isWhite_18 (v := 0) (by decide) ?_
    exact r_zret (pc := 19) C Q (Or.inl rfl) d_I_isWhite_19 (by decide) (by decide) h
  · intro hc; replace h := h.2 hc
    refine r_aload_n (pc := 7) C d_I_isWhite_7 rfl 0 rfl ?_
    obtain ⟨o4, h⟩ := h
    refine r_getI (pc := 8) (ci := 5) C rfl 6 (by decide) (k_473 C.w) rfl (ok_O o4) d_I_isWhite_8 ?_
    refine r_if_ne (tgt := 18) (pc := 11) C d_I_isWhite_11 (by decide) ?_ ?_
    · intro hc; replace h := h.2 hc
      refine r_iconst (pc := 18) C d_I_isWhite_18 (v := 0) (by decide) ?_
      exact r_zret (pc := 19) C Q (Or.inl rfl) d_I_isWhite_19 (by decide) (by decide) h
    · intro hc; replace h := h.1 hc
      refine r_iconst (pc := 14) C d_I_isWhite_14 (v := 1) (by decide) ?_
      refine r_goto (tgt := 19) (pc := 15) C d_I_isWhite_15 (by decide) ?_
      exact r_zret (pc := 19) C Q (Or.inr rfl) d_I_isWhite_19 (by decide) (by decide) h
theorem c_I_turnGreyIfWhite {l : Launch} (hl : l.stackTraces = false) {G : Gl} (hg : gf G = true) {x : Nat} {post : Mem → Prop} {μ : Mem} (h : wI_turnGreyIfWhite x post μ) : Ct l G i_I_turnGreyIfWhite [.inr (.inl (some x))] μ (poV post) noX := by
  refine ct_of hl (by decide) (Nat.le_of_ble_eq_true rfl) ?_
  intro K hKl C Q hE
  clear hl hKl
  replace C : Cx K G prog_2_method_6_code "LineCollector$Item" 1 { frames := 2, cells := 0, slots := 0, locals := 40 } := C
  replace Q : Cq K G { frames := 2, cells := 0, slots := 0, locals := 40 } (none) (poV post) noX := Q
  show Rn K G 1 0 [(0, .inr (.inl (some x)))] [] μ 0 0
  unfold wI_turnGreyIfWhite at h
  refine r_aload_n (pc := 0) C d_I_turnGreyIfWhite_0 rfl 0 rfl ?_
  obtain ⟨o1, h⟩ := h
  refine r_cVi (pc := 1) (a' := 0) (b' := 0) (As := []) (ci := 5) C (c_I_isWhite C.s hg h) o_I_isWhite rfl (ok_O o1) (k_173 C.w) rfl ⟨by decide, by decide, by decide, by decide⟩ rfl rfl (Nat.le_of_ble_eq_true rfl) d_I_turnGreyIfWhite_1 rfl ?_
  intro r3 μ2 h
  refine r_if_eq (tgt := 12) (pc := 4) C d_I_turnGreyIfWhite_4 (by decide) ?_ ?_
  · intro hc; replace h := h.1 hc
    exact r_vret (pc := 12) C Q d_I_turnGreyIfWhite_12 (by decide) (by decide) h
  · intro hc; replace h := h.2 hc
    refine r_aload_n (pc := 7) C d_I_turnGreyIfWhite_7 rfl 0 rfl ?_
    refine r_iconst (pc := 8) C d_I_turnGreyIfWhite_8 (v := 1) (by decide) ?_
    obtain ⟨o4, h⟩ := h
    refine r_putI (pc := 9) (ci := 5) C rfl 6 (by decide) (k_473 C.w) rfl rfl p_I (ok_O o4) d_I_turnGreyIfWhite_9 ?_
    intro μ5 eμ5; replace h := h μ5 eμ5
    exact r_vret (pc := 12) C Q d_I_turnGreyIfWhite_12 (by decide) (by decide) h
theorem c_C_letGo {l : Launch} (hl : l.stackTraces = false) {G : Gl} (hg : gf G = true) {a1 : Nat} {post : Mem → Prop} {μ : Mem} (h : wC_letGo a1 post μ) : Ct l G i_C_letGo [.inr (.inl (some 0)), .inr (.inl (some a1))] μ (poV post) noX := by
  refine ct_of hl (by decide) (Nat.le_of_ble_eq_true rfl) ?_
  intro K hKl C Q hE
  clear hl hKl
  replace C : Cx K G prog_1_method_27_code "LineCollector" 6 { frames := 3, cells := 0, slots := 0, locals := 60 } := C
  replace Q : Cq K G { frames := 3, cells := 0, slots := 0, locals := 60 } (none) (poV post) noX := Q
  show Rn K G 6 0 [(0, .inr (.inl (some 0))), (1, .inr (.inl (some a1)))] [] μ 0 0
  have L_16 : ∀ (l1 : Nat) (l2 : Nat) (l3 : Int32) (k : Int32 → Mem → Prop), (∀ (v4 : Int32) (μ : Mem), k v4 μ → Rn K G 6 64 [] [] μ 0 0) → ∀ (n : Nat) (l4 : Int32) (μ : Mem), wC_letGo_16 l1 l2 l3 k n l4 μ → Rn K G 6 16 [(0, .inr (.inl (some 0))), (1, .inr (.inl (some l1))), (2, .inr (.inl (some l2))), (3, .inl l3), (4, .inl l4)] [] μ 0 0 := by
    intro l1 l2 l3 k hk n
    induction n with
    | zero => intro l4 μ h; exact h.elim
    | succ n ih =>
      intro l4 μ h
      unfold wC_letGo_16 at h
      refine r_iload (pc := 16) C d_C_letGo_16 4 rfl ?_
      refine r_iload_n (pc := 18) C d_C_letGo_18 rfl 3 rfl ?_
      refine r_icmp_ge (tgt := 64) (pc := 19) C d_C_letGo_19 (by decide) ?_ ?_
      · intro hc; replace h := h.1 hc
        refine r_sub [] rfl ?_
        exact hk l4 μ h
      · intro hc; replace h := h.2 hc
        refine r_aload_n (pc := 22) C d_C_letGo_22 rfl 2 rfl ?_
        refine r_iload (pc := 23) C d_C_letGo_23 4 rfl ?_
        obtain ⟨o4, h⟩ := h
        obtain ⟨b5, h⟩ := h
        refine r_aald (pc := 25) C (ok_A o4) b5 d_C_letGo_25 ?_
        intro e6 he6; replace h := h e6 he6
        refine r_astore (pc := 26) (lv' := [(0, .inr (.inl (some 0))), (1, .inr (.inl (some l1))), (2, .inr (.inl (some l2))), (3, .inl l3), (4, .inl l4)]) C d_C_letGo_26 (by decide) rfl ?_
        refine r_aload (pc := 28) C d_C_letGo_28 0 rfl ?_
        refine r_ifnonnull (tgt := 36) (pc := 30) C d_C_letGo_30 (by decide) ?_ ?_
        · intro y7 h0; subst h0; replace h := h.2 y7 rfl
          refine r_aload_n (pc := 36) C d_C_letGo_36 rfl 1 rfl ?_
          refine r_getR (pc := 37) (ci := 0) C rfl 5 (by decide) (k_111 C.w) rfl (lay_O hg rfl) d_C_letGo_37 ?_
          refine r_aload (pc := 40) C d_C_letGo_40 0 rfl ?_
          refine r_cVv (pc := 42) (a' := 0) (b' := 0) (As := [.inr (.inl (some y7))]) (ci := 4) C (c_W_add C.s hg h) o_W_add rfl (lay_O hg rfl) (k_165 C.w) rfl ⟨by decide, by decide, by decide, by decide⟩ rfl rfl (Nat.le_of_ble_eq_true rfl) d_C_letGo_42 rfl ?_
          intro μ8 h
          refine r_aload_n (pc := 45) C d_C_letGo_45 rfl 2 rfl ?_
          obtain ⟨o9, h⟩ := h
          refine r_getI (pc := 46) (ci := 5) C rfl 6 (by decide) (k_474 C.w) rfl (ok_O o9) d_C_letGo_46 ?_
          refine r_iconst (pc := 49) C d_C_letGo_49 (v := 1) (by decide) ?_
          refine r_icmp_ne (tgt := 58) (pc := 50) C d_C_letGo_50 (by decide) ?_ ?_
          · intro hc; replace h := h.2 hc
            refine r_iinc (pc := 58) (v := 1) (lv' := [(5, .inr (.inl (some y7))), (0, .inr (.inl (some 0))), (1, .inr (.inl (some l1))), (2, .inr (.inl (some l2))), (3, .inl l3)]) C d_C_letGo_58 5 rfl (by decide) (by decide) rfl ?_
            refine r_goto (tgt := 16) (pc := 61) C d_C_letGo_61 (by decide) ?_
            refine r_sub [2, 3, 4, 5, 0] rfl ?_
            exact ih (l4 + 1) μ8 h
          · intro hc; replace h := h.1 hc
            refine r_aload (pc := 53) C d_C_letGo_53 0 rfl ?_
            obtain ⟨o10, h⟩ := h
            refine r_cVv (pc := 55) (a' := 0) (b' := 0) (As := []) (ci := 5) C (c_I_turnGreyIfWhite C.s hg h) o_I_turnGreyIfWhite rfl (ok_O o10) (k_169 C.w) rfl ⟨by decide, by decide, by decide, by decide⟩ rfl rfl (Nat.le_of_ble_eq_true rfl) d_C_letGo_55 rfl ?_
            intro μ11 h
            refine r_iinc (pc := 58) (v := 1) (lv' := [(5, .inr (.inl (some y7))), (0, .inr (.inl (some 0))), (1, .inr (.inl (some l1))), (2, .inr (.inl (some l2))), (3, .inl l3)]) C d_C_letGo_58 5 rfl (by decide) (by decide) rfl ?_
            refine r_goto (tgt := 16) (pc := 61) C d_C_letGo_61 (by decide) ?_
            refine r_sub [2, 3, 4, 5, 0] rfl ?_
            exact ih (l4 + 1) μ11 h
        · intro h0; subst h0; replace h := h.1 rfl
          refine r_goto (tgt := 58) (pc := 33) C d_C_letGo_33 (by decide) ?_
          refine r_iinc (pc := 58) (v := 1) (lv' := [(5, .inr (.inl none)), (0, .inr (.inl (some 0))), (1, .inr (.inl (some l1))), (2, .inr (.inl (some l2))), (3, .inl l3)]) C d_C_letGo_58 5 rfl (by decide) (by decide) rfl ?_
          refine r_goto (tgt := 16) (pc := 61) C d_C_letGo_61 (by decide) ?_
          refine r_sub [2, 3, 4, 5, 0] rfl ?_
          exact ih (l4 + 1) μ h
  unfold wC_letGo at h
  refine r_aload_n (pc := 0) C d_C_letGo_0 rfl 0 rfl ?_
  refine r_aload_n (pc := 1) C d_C_letGo_1 rfl 1 rfl ?_
  refine r_cVv (pc := 2) (a' := 0) (b' := 0) (As := [.inr (.inl (some a1))]) (ci := 0) C (c_C_remove C.s hg h) o_C_remove rfl (lay_O hg rfl) (k_157 C.w) rfl ⟨by decide, by decide, by decide, by decide⟩ rfl rfl (Nat.le_of_ble_eq_true rfl) d_C_letGo_2 rfl ?_
  intro μ1 h
  refine r_aload_n (pc := 5) C d_C_letGo_5 rfl 1 rfl ?_
  obtain ⟨o2, h⟩ := h
  refine r_getR (pc := 6) (ci := 5) C rfl 2 (by decide) (k_466 C.w) rfl (ok_O o2) d_C_letGo_6 ?_
  refine r_astore_n (pc := 9) (lv' := [(0, .inr (.inl (some 0))), (1, .inr (.inl (some a1)))]) C d_C_letGo_9 rfl (by decide) rfl ?_
  refine r_aload_n (pc := 10) C d_C_letGo_10 rfl 0 rfl ?_
  obtain ⟨o3, h⟩ := h
  refine r_alenQ (pc := 11) (v := nI (mL μ1 (a1 + 1))) C (ok_A o3) rfl d_C_letGo_11 ?_
  refine r_istore_n (pc := 12) (lv' := [(2, .inr (.inl (some (a1 + 1)))), (0, .inr (.inl (some 0))), (1, .inr (.inl (some a1)))]) C d_C_letGo_12 rfl (by decide) rfl ?_
  refine r_iconst (pc := 13) C d_C_letGo_13 (v := 0) (by decide) ?_
  refine r_istore (pc := 14) (lv' := [(3, .inl (nI (mL μ1 (a1 + 1)))), (2, .inr (.inl (some (a1 + 1)))), (0, .inr (.inl (some 0))), (1, .inr (.inl (some a1)))]) C d_C_letGo_14 (by decide) rfl ?_
  obtain ⟨n14, h⟩ := h
  refine r_sub [3, 4, 2, 1, 0] rfl ?_
  refine L_16 a1 (a1 + 1) (nI (mL μ1 (a1 + 1))) _ ?_ n14 0 μ1 h
  intro v13 μ12 h
  exact r_vret (pc := 64) C Q d_C_letGo_64 (by decide) (by decide) h
theorem c_C_drainUpTo {l : Launch} (hl : l.stackTraces = false) {G : Gl} (hg : gf G = true) {a1 : Int32} {post : Mem → Prop} {μ : Mem} (h : wC_drainUpTo a1 post μ) : Ct l G i_C_drainUpTo [.inr (.inl (some 0)), .inl a1] μ (poV post) noX := by
  refine ct_of hl (by decide) (Nat.le_of_ble_eq_true rfl) ?_
  intro K hKl C Q hE
  clear hl hKl
  replace C : Cx K G prog_1_method_26_code "LineCollector" 4 { frames := 4, cells := 0, slots := 0, locals := 85 } := C
  replace Q : Cq K G { frames := 4, cells := 0, slots := 0, locals := 85 } (none) (poV post) noX := Q
  show Rn K G 4 0 [(0, .inr (.inl (some 0))), (1, .inl a1)] [] μ 0 0
  have L_2 : ∀ (l1 : Int32) (k : Int32 → Mem → Prop), (∀ (v2 : Int32) (μ : Mem), k v2 μ → Rn K G 4 68 [] [] μ 0 0) → ∀ (n : Nat) (l2 : Int32) (μ : Mem), wC_drainUpTo_2 l1 k n l2 μ → Rn K G 4 2 [(0, .inr (.inl (some 0))), (1, .inl l1), (2, .inl l2)] [] μ 0 0 := by
    intro l1 k hk n
    induction n with
    | zero => intro l2 μ h; exact h.elim
    | succ n ih =>
      intro l2 μ h
      unfold wC_drainUpTo_2 at h
      refine r_iload_n (pc := 2) C d_C_drainUpTo_2 rfl 2 rfl ?_
      refine r_iload_n (pc := 3) C d_C_drainUpTo_3 rfl 1 rfl ?_
      refine r_icmp_ge (tgt := 68) (pc := 4) C d_C_drainUpTo_4 (by decide) ?_ ?_
      · intro hc; replace h := h.1 hc
        refine r_sub [] rfl ?_
        exact hk l2 μ h
      · intro hc; replace h := h.2 hc
        refine r_aload_n (pc := 7) C d_C_drainUpTo_7 rfl 0 rfl ?_
        refine r_getR (pc := 8) (ci := 0) C rfl 5 (by decide) (k_111 C.w) rfl (lay_O hg rfl) d_C_drainUpTo_8 ?_
        refine r_getI (pc := 11) (ci := 4) C rfl 2 (by decide) (k_98 C.w) rfl (lay_O hg rfl) d_C_drainUpTo_11 ?_
        refine r_if_le (tgt := 68) (pc := 14) C d_C_drainUpTo_14 (by decide) ?_ ?_
        · intro hc; replace h := h.1 hc
          refine r_sub [] rfl ?_
          exact hk l2 μ h
        · intro hc; replace h := h.2 hc
          refine r_aload_n (pc := 17) C d_C_drainUpTo_17 rfl 0 rfl ?_
          refine r_getR (pc := 18) (ci := 0) C rfl 5 (by decide) (k_111 C.w) rfl (lay_O hg rfl) d_C_drainUpTo_18 ?_
          refine r_cVq (pc := 21) (a' := 0) (b' := 0) (As := []) (ci := 4) C (c_W_takeFirst C.s hg h) o_W_takeFirst rfl (lay_O hg rfl) (k_149 C.w) rfl ⟨by decide, by decide, by decide, by decide⟩ rfl rfl (Nat.le_of_ble_eq_true rfl) d_C_drainUpTo_21 rfl ?_
          intro r2 μ1 h
          refine r_astore_n (pc := 24) (lv' := [(0, .inr (.inl (some 0))), (1, .inl l1), (2, .inl l2)]) C d_C_drainUpTo_24 rfl (by decide) rfl ?_
          refine r_aload_n (pc := 25) C d_C_drainUpTo_25 rfl 0 rfl ?_
          refine r_ifnull (tgt := 62) (pc := 26) C d_C_drainUpTo_26 (by decide) ?_ ?_
          · intro h0; subst h0; replace h := h.1 rfl
            refine r_iinc (pc := 62) (v := 1) (lv' := [(3, .inr (.inl none)), (0, .inr (.inl (some 0))), (1, .inl l1)]) C d_C_drainUpTo_62 3 rfl (by decide) (by decide) rfl ?_
            refine r_goto (tgt := 2) (pc := 65) C d_C_drainUpTo_65 (by decide) ?_
            refine r_sub [2, 3, 0] rfl ?_
            exact ih (l2 + 1) μ1 h
          · intro y3 h0; subst h0; replace h := h.2 y3 rfl
            refine r_aload_n (pc := 29) C d_C_drainUpTo_29 rfl 0 rfl ?_
            obtain ⟨o4, h⟩ := h
            refine r_getI (pc := 30) (ci := 5) C rfl 5 (by decide) (k_472 C.w) rfl (ok_O o4) d_C_drainUpTo_30 ?_
            refine r_iconst (pc := 33) C d_C_drainUpTo_33 (v := 3) (by decide) ?_
            refine r_icmp_ne (tgt := 40) (pc := 34) C d_C_drainUpTo_34 (by decide) ?_ ?_
            · intro hc; replace h := h.2 hc
              refine r_aload_n (pc := 40) C d_C_drainUpTo_40 rfl 0 rfl ?_
              refine r_dupR (pc := 41) C d_C_drainUpTo_41 ?_
              refine r_getI (pc := 42) (ci := 5) C rfl 5 (by decide) (k_472 C.w) rfl (ok_O o4) d_C_drainUpTo_42 ?_
              refine r_iconst (pc := 45) C d_C_drainUpTo_45 (v := 1) (by decide) ?_
              refine r_isub (pc := 46) C d_C_drainUpTo_46 ?_
              refine r_putI (pc := 47) (ci := 5) C rfl 5 (by decide) (k_472 C.w) rfl rfl p_I (ok_O o4) d_C_drainUpTo_47 ?_
              intro μ5 eμ5; replace h := h μ5 eμ5
              refine r_aload_n (pc := 50) C d_C_drainUpTo_50 rfl 0 rfl ?_
              refine r_getI (pc := 51) (ci := 5) C rfl 5 (by decide) (k_472 C.w) rfl (ok_O (ok_s eμ5 o4)) d_C_drainUpTo_51 ?_
              refine r_if_ne (tgt := 62) (pc := 54) C d_C_drainUpTo_54 (by decide) ?_ ?_
              · intro hc; replace h := h.2 hc
                refine r_iinc (pc := 62) (v := 1) (lv' := [(3, .inr (.inl (some y3))), (0, .inr (.inl (some 0))), (1, .inl l1)]) C d_C_drainUpTo_62 3 rfl (by decide) (by decide) rfl ?_
                refine r_goto (tgt := 2) (pc := 65) C d_C_drainUpTo_65 (by decide) ?_
                refine r_sub [2, 3, 0] rfl ?_
                exact ih (l2 + 1) μ5 h
              · intro hc; replace h := h.1 hc
                refine r_aload_n (pc := 57) C d_C_drainUpTo_57 rfl 1 rfl ?_
                refine r_aload_n (pc := 58) C d_C_drainUpTo_58 rfl 0 rfl ?_
                refine r_cVv (pc := 59) (a' := 0) (b' := 0) (As := [.inr (.inl (some y3))]) (ci := 0) C (c_C_letGo C.s hg h) o_C_letGo rfl (lay_O hg rfl) (k_153 C.w) rfl ⟨by decide, by decide, by decide, by decide⟩ rfl rfl (Nat.le_of_ble_eq_true rfl) d_C_drainUpTo_59 rfl ?_
                intro μ6 h
                refine r_iinc (pc := 62) (v := 1) (lv' := [(3, .inr (.inl (some y3))), (0, .inr (.inl (some 0))), (1, .inl l1)]) C d_C_drainUpTo_62 3 rfl (by decide) (by decide) rfl ?_
                refine r_goto (tgt := 2) (pc := 65) C d_C_drainUpTo_65 (by decide) ?_
                refine r_sub [2, 3, 0] rfl ?_
                exact ih (l2 + 1) μ6 h
            · intro hc; replace h := h.1 hc
              refine r_goto (tgt := 62) (pc := 37) C d_C_drainUpTo_37 (by decide) ?_
              refine r_iinc (pc := 62) (v := 1) (lv' := [(3, .inr (.inl (some y3))), (0, .inr (.inl (some 0))), (1, .inl l1)]) C d_C_drainUpTo_62 3 rfl (by decide) (by decide) rfl ?_
              refine r_goto (tgt := 2) (pc := 65) C d_C_drainUpTo_65 (by decide) ?_
              refine r_sub [2, 3, 0] rfl ?_
              exact ih (l2 + 1) μ1 h
  unfold wC_drainUpTo at h
  refine r_iconst (pc := 0) C d_C_drainUpTo_0 (v := 0) (by decide) ?_
  refine r_istore_n (pc := 1) (lv' := [(0, .inr (.inl (some 0))), (1, .inl a1)]) C d_C_drainUpTo_1 rfl (by decide) rfl ?_
  obtain ⟨n9, h⟩ := h
  refine r_sub [1, 2, 0] rfl ?_
  refine L_2 a1 _ ?_ n9 0 μ h
  intro v8 μ7 h
  exact r_vret (pc := 68) C Q d_C_drainUpTo_68 (by decide) (by decide) h
theorem c_P_close {l : Launch} (hl : l.stackTraces = false) {G : Gl} (hg : gf G = true) {post : Mem → Prop} {μ : Mem} (h : wP_close post μ) : Ct l G i_P_close [.inr (.inl (some 4))] μ (poV post) noX := by
  refine ct_of hl (by decide) (Nat.le_of_ble_eq_true rfl) ?_
  intro K hKl C Q hE
  clear hl hKl
  replace C : Cx K G prog_4_method_8_code "LineCollector$Places" 1 { frames := 1, cells := 0, slots := 0, locals := 22 } := C
  replace Q : Cq K G { frames := 1, cells := 0, slots := 0, locals := 22 } (none) (poV post) noX := Q
  show Rn K G 1 0 [(0, .inr (.inl (some 4)))] [] μ 0 0
  unfold wP_close at h
  refine r_aload_n (pc := 0) C d_P_close_0 rfl 0 rfl ?_
  refine r_getR (pc := 1) (ci := 1) C rfl 2 (by decide) (k_53 C.w) rfl (lay_O hg rfl) d_P_close_1 ?_
  refine r_iconst (pc := 4) C d_P_close_4 (v := 0) (by decide) ?_
  refine r_iconst (pc := 5) C d_P_close_5 (v := 0) (by decide) ?_
  refine r_cVv (pc := 6) (a' := 0) (b' := 0) (As := [.inl 0, .inl 0]) (ci := 2) C (c_S_open C.s hg h) o_S_open rfl (lay_O hg rfl) (k_185 C.w) rfl ⟨by decide, by decide, by decide, by decide⟩ rfl rfl (Nat.le_of_ble_eq_true rfl) d_P_close_6 rfl ?_
  intro μ1 h
  refine r_aload_n (pc := 9) C d_P_close_9 rfl 0 rfl ?_
  refine r_getR (pc := 10) (ci := 1) C rfl 3 (by decide) (k_54 C.w) rfl (lay_O hg rfl) d_P_close_10 ?_
  refine r_iconst (pc := 13) C d_P_close_13 (v := 0) (by decide) ?_
  refine r_iconst (pc := 14) C d_P_close_14 (v := 0) (by decide) ?_
  refine r_cVv (pc := 15) (a' := 0) (b' := 0) (As := [.inl 0, .inl 0]) (ci := 2) C (c_S_open C.s hg h) o_S_open rfl (lay_O hg rfl) (k_185 C.w) rfl ⟨by decide, by decide, by decide, by decide⟩ rfl rfl (Nat.le_of_ble_eq_true rfl) d_P_close_15 rfl ?_
  intro μ2 h
  exact r_vret (pc := 18) C Q d_P_close_18 (by decide) (by decide) h
theorem c_W_clear {l : Launch} (hl : l.stackTraces = false) {G : Gl} (hg : gf G = true) {x : Nat} {post : Mem → Prop} {μ : Mem} (h : wW_clear x post μ) : Ct l G i_W_clear [.inr (.inl (some x))] μ (poV post) noX := by
  refine ct_of hl (by decide) (Nat.le_of_ble_eq_true rfl) ?_
  intro K hKl C Q hE
  clear hl hKl
  replace C : Cx K G prog_5_method_6_code "LineCollector$Row" 1 { frames := 0, cells := 0, slots := 0, locals := 0 } := C
  replace Q : Cq K G { frames := 0, cells := 0, slots := 0, locals := 0 } (none) (poV post) noX := Q
  show Rn K G 1 0 [(0, .inr (.inl (some x)))] [] μ 0 0
  unfold wW_clear at h
  refine r_aload_n (pc := 0) C d_W_clear_0 rfl 0 rfl ?_
  refine r_iconst (pc := 1) C d_W_clear_1 (v := 0) (by decide) ?_
  obtain ⟨o1, h⟩ := h
  refine r_putI (pc := 2) (ci := 4) C rfl 1 (by decide) (k_96 C.w) rfl rfl p_I (ok_O o1) d_W_clear_2 ?_
  intro μ2 eμ2; replace h := h μ2 eμ2
  refine r_aload_n (pc := 5) C d_W_clear_5 rfl 0 rfl ?_
  refine r_iconst (pc := 6) C d_W_clear_6 (v := 0) (by decide) ?_
  refine r_putI (pc := 7) (ci := 4) C rfl 2 (by decide) (k_97 C.w) rfl rfl p_I (ok_O (ok_s eμ2 o1)) d_W_clear_7 ?_
  intro μ3 eμ3; replace h := h μ3 eμ3
  exact r_vret (pc := 10) C Q d_W_clear_10 (by decide) (by decide) h
theorem c_G_heldNow {l : Launch} (hl : l.stackTraces = false) {G : Gl} (hg : gf G = true) {a1 : Int32} {post : Option Nat → Mem → Prop} {μ : Mem} (h : wG_heldNow a1 post μ) : Ct l G i_G_heldNow [.inr (.inl (some 9)), .inl a1] μ (poQ G post) noX := by
  refine ct_of hl (by decide) (Nat.le_of_ble_eq_true rfl) ?_
  intro K hKl C Q hE
  clear hl hKl
  replace C : Cx K G prog_3_method_3_code "LineCollector$Log" 2 { frames := 0, cells := 0, slots := 0, locals := 0 } := C
  replace Q : Cq K G { frames := 0, cells := 0, slots := 0, locals := 0 } (some (.object "LineCollector$Item")) (poQ G post) noX := Q
  show Rn K G 2 0 [(0, .inr (.inl (some 9))), (1, .inl a1)] [] μ 0 0
  unfold wG_heldNow at h
  refine r_aload_n (pc := 0) C d_G_heldNow_0 rfl 0 rfl ?_
  refine r_getR (pc := 1) (ci := 3) C rfl 0 (by decide) (k_74 C.w) rfl (lay_O hg rfl) d_G_heldNow_1 ?_
  refine r_iload_n (pc := 4) C d_G_heldNow_4 rfl 1 rfl ?_
  obtain ⟨b1, h⟩ := h
  refine r_aald (pc := 5) C (lay_A hg rfl) b1 d_G_heldNow_5 ?_
  intro e2 he2; replace h := h e2 he2
  obtain ⟨y3, rfl, h⟩ := h
  obtain ⟨o4, h⟩ := h
  refine r_getR (pc := 6) (ci := 5) C rfl 2 (by decide) (k_465 C.w) rfl (ok_O o4) d_G_heldNow_6 ?_
  refine r_aload_n (pc := 9) C d_G_heldNow_9 rfl 0 rfl ?_
  refine r_getR (pc := 10) (ci := 3) C rfl 1 (by decide) (k_75 C.w) rfl (lay_O hg rfl) d_G_heldNow_10 ?_
  refine r_iload_n (pc := 13) C d_G_heldNow_13 rfl 1 rfl ?_
  refine r_iald (pc := 14) C (lay_A hg rfl) b1 d_G_heldNow_14 ?_
  obtain ⟨o5, h⟩ := h
  obtain ⟨b6, h⟩ := h
  refine r_aald (pc := 15) C (ok_A o5) b6 d_G_heldNow_15 ?_
  intro e7 he7; replace h := h e7 he7
  exact r_aret (pc := 16) C Q d_G_heldNow_16 (by decide) (by decide) h
theorem c_C_gatherSlots {l : Launch} (hl : l.stackTraces = false) {G : Gl} (hg : gf G = true) {post : Mem → Prop} {μ : Mem} (h : wC_gatherSlots post μ) : Ct l G i_C_gatherSlots [.inr (.inl (some 0))] μ (poV post) noX := by
  refine ct_of hl (by decide) (Nat.le_of_ble_eq_true rfl) ?_
  intro K hKl C Q hE
  clear hl hKl
  replace C : Cx K G prog_1_method_34_code "LineCollector" 5 { frames := 1, cells := 0, slots := 0, locals := 21 } := C
  replace Q : Cq K G { frames := 1, cells := 0, slots := 0, locals := 21 } (none) (poV post) noX := Q
  show Rn K G 5 0 [(0, .inr (.inl (some 0)))] [] μ 0 0
  have L_17 : ∀ (l2 : Int32) (k : Int32 → Mem → Prop), (∀ (v3 : Int32) (μ : Mem), k v3 μ → Rn K G 5 42 [(0, .inr (.inl (some 0)))] [] μ 0 0) → ∀ (n : Nat) (l3 : Int32) (μ : Mem), wC_gatherSlots_17 l2 k n l3 μ → Rn K G 5 17 [(0, .inr (.inl (some 0))), (1, .inr (.inl (some 1))), (2, .inl l2), (3, .inl l3)] [] μ 0 0 := by
    intro l2 k hk n
    induction n with
    | zero => intro l3 μ h; exact h.elim
    | succ n ih =>
      intro l3 μ h
      unfold wC_gatherSlots_17 at h
      refine r_iload_n (pc := 17) C d_C_gatherSlots_17 rfl 3 rfl ?_
      refine r_iload_n (pc := 18) C d_C_gatherSlots_18 rfl 2 rfl ?_
      refine r_icmp_ge (tgt := 42) (pc := 19) C d_C_gatherSlots_19 (by decide) ?_ ?_
      · intro hc; replace h := h.1 hc
        refine r_sub [0] rfl ?_
        exact hk l3 μ h
      · intro hc; replace h := h.2 hc
        refine r_aload_n (pc := 22) C d_C_gatherSlots_22 rfl 1 rfl ?_
        refine r_iload_n (pc := 23) C d_C_gatherSlots_23 rfl 3 rfl ?_
        obtain ⟨b2, h⟩ := h
        refine r_aald (pc := 24) C (lay_A hg rfl) b2 d_C_gatherSlots_24 ?_
        intro e3 he3; replace h := h e3 he3
        refine r_astore (pc := 25) (lv' := [(0, .inr (.inl (some 0))), (1, .inr (.inl (some 1))), (2, .inl l2), (3, .inl l3)]) C d_C_gatherSlots_25 (by decide) rfl ?_
        refine r_aload_n (pc := 27) C d_C_gatherSlots_27 rfl 1 rfl ?_
        refine r_getR (pc := 28) (ci := 0) C rfl 6 (by decide) (k_112 C.w) rfl (lay_O hg rfl) d_C_gatherSlots_28 ?_
        refine r_aload (pc := 31) C d_C_gatherSlots_31 0 rfl ?_
        refine r_cVv (pc := 33) (a' := 0) (b' := 0) (As := [.inr (.inl e3)]) (ci := 4) C (c_W_add C.s hg h) o_W_add rfl (lay_O hg rfl) (k_165 C.w) rfl ⟨by decide, by decide, by decide, by decide⟩ rfl rfl (Nat.le_of_ble_eq_true rfl) d_C_gatherSlots_33 rfl ?_
        intro μ4 h
        refine r_iinc (pc := 36) (v := 1) (lv' := [(4, .inr (.inl e3)), (0, .inr (.inl (some 0))), (1, .inr (.inl (some 1))), (2, .inl l2)]) C d_C_gatherSlots_36 4 rfl (by decide) (by decide) rfl ?_
        refine r_goto (tgt := 17) (pc := 39) C d_C_gatherSlots_39 (by decide) ?_
        refine r_sub [2, 3, 4, 0] rfl ?_
        exact ih (l3 + 1) μ4 h
  have L_44 : ∀ (k : Int32 → Mem → Prop), (∀ (v1 : Int32) (μ : Mem), k v1 μ → Rn K G 5 76 [] [] μ 0 0) → ∀ (n : Nat) (l1 : Int32) (μ : Mem), wC_gatherSlots_44 k n l1 μ → Rn K G 5 44 [(0, .inr (.inl (some 0))), (1, .inl l1)] [] μ 0 0 := by
    intro k hk n
    induction n with
    | zero => intro l1 μ h; exact h.elim
    | succ n ih =>
      intro l1 μ h
      unfold wC_gatherSlots_44 at h
      refine r_iload_n (pc := 44) C d_C_gatherSlots_44 rfl 1 rfl ?_
      refine r_aload_n (pc := 45) C d_C_gatherSlots_45 rfl 0 rfl ?_
      refine r_getR (pc := 46) (ci := 0) C rfl 4 (by decide) (k_110 C.w) rfl (lay_O hg rfl) d_C_gatherSlots_46 ?_
      refine r_getI (pc := 49) (ci := 3) C rfl 3 (by decide) (k_78 C.w) rfl (lay_O hg rfl) d_C_gatherSlots_49 ?_
      refine r_icmp_ge (tgt := 76) (pc := 52) C d_C_gatherSlots_52 (by decide) ?_ ?_
      · intro hc; replace h := h.1 hc
        refine r_sub [] rfl ?_
        exact hk l1 μ h
      · intro hc; replace h := h.2 hc
        refine r_aload_n (pc := 55) C d_C_gatherSlots_55 rfl 0 rfl ?_
        refine r_getR (pc := 56) (ci := 0) C rfl 6 (by decide) (k_112 C.w) rfl (lay_O hg rfl) d_C_gatherSlots_56 ?_
        refine r_aload_n (pc := 59) C d_C_gatherSlots_59 rfl 0 rfl ?_
        refine r_getR (pc := 60) (ci := 0) C rfl 4 (by decide) (k_110 C.w) rfl (lay_O hg rfl) d_C_gatherSlots_60 ?_
        refine r_iload_n (pc := 63) C d_C_gatherSlots_63 rfl 1 rfl ?_
        refine r_cVq (pc := 64) (a' := 0) (b' := 0) (As := [.inl l1]) (ci := 3) C (c_G_heldNow C.s hg h) o_G_heldNow rfl (lay_O hg rfl) (k_201 C.w) rfl ⟨by decide, by decide, by decide, by decide⟩ rfl rfl (Nat.le_of_ble_eq_true rfl) d_C_gatherSlots_64 rfl ?_
        intro r8 μ7 h
        refine r_cVv (pc := 67) (a' := 0) (b' := 0) (As := [.inr (.inl r8)]) (ci := 4) C (c_W_add C.s hg h) o_W_add rfl (lay_O hg rfl) (k_165 C.w) rfl ⟨by decide, by decide, by decide, by decide⟩ rfl rfl (Nat.le_of_ble_eq_true rfl) d_C_gatherSlots_67 rfl ?_
        intro μ9 h
        refine r_iinc (pc := 70) (v := 1) (lv' := [(0, .inr (.inl (some 0)))]) C d_C_gatherSlots_70 1 rfl (by decide) (by decide) rfl ?_
        refine r_goto (tgt := 44) (pc := 73) C d_C_gatherSlots_73 (by decide) ?_
        refine r_sub [1, 0] rfl ?_
        exact ih (l1 + 1) μ9 h
  unfold wC_gatherSlots at h
  refine r_aload_n (pc := 0) C d_C_gatherSlots_0 rfl 0 rfl ?_
  refine r_getR (pc := 1) (ci := 0) C rfl 6 (by decide) (k_112 C.w) rfl (lay_O hg rfl) d_C_gatherSlots_1 ?_
  refine r_cVv (pc := 4) (a' := 0) (b' := 0) (As := []) (ci := 4) C (c_W_clear C.s hg h) o_W_clear rfl (lay_O hg rfl) (k_197 C.w) rfl ⟨by decide, by decide, by decide, by decide⟩ rfl rfl (Nat.le_of_ble_eq_true rfl) d_C_gatherSlots_4 rfl ?_
  intro μ1 h
  refine r_aload_n (pc := 7) C d_C_gatherSlots_7 rfl 0 rfl ?_
  refine r_getR (pc := 8) (ci := 0) C rfl 0 (by decide) (k_106 C.w) rfl (lay_O hg rfl) d_C_gatherSlots_8 ?_
  refine r_astore_n (pc := 11) (lv' := [(0, .inr (.inl (some 0)))]) C d_C_gatherSlots_11 rfl (by decide) rfl ?_
  refine r_aload_n (pc := 12) C d_C_gatherSlots_12 rfl 0 rfl ?_
  refine r_alenQ (pc := 13) (v := 6) C (lay_A hg rfl) (by decide) d_C_gatherSlots_13 ?_
  refine r_istore_n (pc := 14) (lv' := [(1, .inr (.inl (some 1))), (0, .inr (.inl (some 0)))]) C d_C_gatherSlots_14 rfl (by decide) rfl ?_
  refine r_iconst (pc := 15) C d_C_gatherSlots_15 (v := 0) (by decide) ?_
  refine r_istore_n (pc := 16) (lv' := [(2, .inl 6), (1, .inr (.inl (some 1))), (0, .inr (.inl (some 0)))]) C d_C_gatherSlots_16 rfl (by decide) rfl ?_
  obtain ⟨n13, h⟩ := h
  refine r_sub [3, 2, 1, 0] rfl ?_
  refine L_17 6 _ ?_ n13 0 μ1 h
  intro v6 μ5 h
  refine r_iconst (pc := 42) C d_C_gatherSlots_42 (v := 0) (by decide) ?_
  refine r_istore_n (pc := 43) (lv' := [(0, .inr (.inl (some 0)))]) C d_C_gatherSlots_43 rfl (by decide) rfl ?_
  obtain ⟨n12, h⟩ := h
  refine r_sub [1, 0] rfl ?_
  refine L_44 _ ?_ n12 0 μ5 h
  intro v11 μ10 h
  exact r_vret (pc := 76) C Q d_C_gatherSlots_76 (by decide) (by decide) h
theorem c_W_get {l : Launch} (hl : l.stackTraces = false) {G : Gl} (hg : gf G = true) {x : Nat} {a1 : Int32} {post : Option Nat → Mem → Prop} {μ : Mem} (h : wW_get x a1 post μ) : Ct l G i_W_get [.inr (.inl (some x)), .inl a1] μ (poQ G post) noX := by
  refine ct_of hl (by decide) (Nat.le_of_ble_eq_true rfl) ?_
  intro K hKl C Q hE
  clear hl hKl
  replace C : Cx K G prog_5_method_3_code "LineCollector$Row" 2 { frames := 0, cells := 0, slots := 0, locals := 0 } := C
  replace Q : Cq K G { frames := 0, cells := 0, slots := 0, locals := 0 } (some (.object "LineCollector$Item")) (poQ G post) noX := Q
  show Rn K G 2 0 [(0, .inr (.inl (some x))), (1, .inl a1)] [] μ 0 0
  unfold wW_get at h
  refine r_iload_n (pc := 0) C d_W_get_0 rfl 1 rfl ?_
  refine r_if_lt (tgt := 30) (pc := 1) C d_W_get_1 (by decide) ?_ ?_
  · intro hc; replace h := h.1 hc
    refine r_null (pc := 30) C d_W_get_30 ?_
    exact r_aret (pc := 31) C Q d_W_get_31 (by decide) (by decide) h
  · intro hc; replace h := h.2 hc
    refine r_iload_n (pc := 4) C d_W_get_4 rfl 1 rfl ?_
    refine r_aload_n (pc := 5) C d_W_get_5 rfl 0 rfl ?_
    obtain ⟨o1, h⟩ := h
    refine r_getI (pc := 6) (ci := 4) C rfl 2 (by decide) (k_97 C.w) rfl (ok_O o1) d_W_get_6 ?_
    refine r_icmp_ge (tgt := 30) (pc := 9) C d_W_get_9 (by decide) ?_ ?_
    · intro hc; replace h := h.1 hc
      refine r_null (pc := 30) C d_W_get_30 ?_
      exact r_aret (pc := 31) C Q d_W_get_31 (by decide) (by decide) h
    · intro hc; replace h := h.2 hc
      refine r_aload_n (pc := 12) C d_W_get_12 rfl 0 rfl ?_
      refine r_getR (pc := 13) (ci := 4) C rfl 0 (by decide) (k_95 C.w) rfl (ok_O o1) d_W_get_13 ?_
      refine r_aload_n (pc := 16) C d_W_get_16 rfl 0 rfl ?_
      refine r_getI (pc := 17) (ci := 4) C rfl 1 (by decide) (k_96 C.w) rfl (ok_O o1) d_W_get_17 ?_
      refine r_iload_n (pc := 20) C d_W_get_20 rfl 1 rfl ?_
      refine r_iadd (pc := 21) C d_W_get_21 ?_
      refine r_sipush (pc := 22) C d_W_get_22 (v := 262) (by decide) ?_
      refine r_irem (pc := 25) C d_W_get_25 (by decide) ?_
      obtain ⟨o2, h⟩ := h
      obtain ⟨b3, h⟩ := h
      refine r_aald (pc := 26) C (ok_A o2) b3 d_W_get_26 ?_
      intro e4 he4; replace h := h e4 he4
      refine r_goto (tgt := 31) (pc := 27) C d_W_get_27 (by decide) ?_
      exact r_aret (pc := 31) C Q d_W_get_31 (by decide) (by decide) h
theorem c_I_growOld {l : Launch} (hl : l.stackTraces = false) {G : Gl} (hg : gf G = true) {x : Nat} {a1 : Int32} {post : Mem → Prop} {μ : Mem} (h : wI_growOld x a1 post μ) : Ct l G i_I_growOld [.inr (.inl (some x)), .inl a1] μ (poV post) noX := by
  refine ct_of hl (by decide) (Nat.le_of_ble_eq_true rfl) ?_
  intro K hKl C Q hE
  clear hl hKl
  replace C : Cx K G prog_2_method_5_code "LineCollector$Item" 2 { frames := 0, cells := 0, slots := 0, locals := 0 } := C
  replace Q : Cq K G { frames := 0, cells := 0, slots := 0, locals := 0 } (none) (poV post) noX := Q
  show Rn K G 2 0 [(0, .inr (.inl (some x))), (1, .inl a1)] [] μ 0 0
  unfold wI_growOld at h
  refine r_aload_n (pc := 0) C d_I_growOld_0 rfl 0 rfl ?_
  refine r_iconst (pc := 1) C d_I_growOld_1 (v := 1) (by decide) ?_
  obtain ⟨o1, h⟩ := h
  refine r_putI (pc := 2) (ci := 5) C rfl 5 (by decide) (k_471 C.w) rfl rfl p_I (ok_O o1) d_I_growOld_2 ?_
  intro μ2 eμ2; replace h := h μ2 eμ2
  refine r_aload_n (pc := 5) C d_I_growOld_5 rfl 0 rfl ?_
  refine r_iload_n (pc := 6) C d_I_growOld_6 rfl 1 rfl ?_
  refine r_putI (pc := 7) (ci := 5) C rfl 6 (by decide) (k_473 C.w) rfl rfl p_I (ok_O (ok_s eμ2 o1)) d_I_growOld_7 ?_
  intro μ3 eμ3; replace h := h μ3 eμ3
  exact r_vret (pc := 10) C Q d_I_growOld_10 (by decide) (by decide) h
theorem c_P_moveOut {l : Launch} (hl : l.stackTraces = false) {G : Gl} (hg : gf G = true) {a1 : Int32} {a2 : Int32} {post : Mem → Prop} {μ : Mem} (h : wP_moveOut a1 a2 post μ) : Ct l G i_P_moveOut [.inr (.inl (some 4)), .inl a1, .inl a2] μ (poV post) noX := by
  refine ct_of hl (by decide) (Nat.le_of_ble_eq_true rfl) ?_
  intro K hKl C Q hE
  clear hl hKl
  replace C : Cx K G prog_4_method_6_code "LineCollector$Places" 4 { frames := 0, cells := 0, slots := 0, locals := 0 } := C
  replace Q : Cq K G { frames := 0, cells := 0, slots := 0, locals := 0 } (none) (poV post) noX := Q
  show Rn K G 4 0 [(0, .inr (.inl (some 4))), (1, .inl a1), (2, .inl a2)] [] μ 0 0
  have L_2 : ∀ (l1 : Int32) (l2 : Int32) (k : Int32 → Mem → Prop), (∀ (v3 : Int32) (μ : Mem), k v3 μ → Rn K G 4 36 [] [] μ 0 0) → ∀ (n : Nat) (l3 : Int32) (μ : Mem), wP_moveOut_2 l1 l2 k n l3 μ → Rn K G 4 2 [(0, .inr (.inl (some 4))), (1, .inl l1), (2, .inl l2), (3, .inl l3)] [] μ 0 0 := by
    intro l1 l2 k hk n
    induction n with
    | zero => intro l3 μ h; exact h.elim
    | succ n ih =>
      intro l3 μ h
      unfold wP_moveOut_2 at h
      refine r_iload_n (pc := 2) C d_P_moveOut_2 rfl 3 rfl ?_
      refine r_iload_n (pc := 3) C d_P_moveOut_3 rfl 1 rfl ?_
      refine r_iload_n (pc := 4) C d_P_moveOut_4 rfl 2 rfl ?_
      refine r_iadd (pc := 5) C d_P_moveOut_5 ?_
      refine r_icmp_ge (tgt := 36) (pc := 6) C d_P_moveOut_6 (by decide) ?_ ?_
      · intro hc; replace h := h.1 hc
        refine r_sub [] rfl ?_
        exact hk l3 μ h
      · intro hc; replace h := h.2 hc
        refine r_aload_n (pc := 9) C d_P_moveOut_9 rfl 0 rfl ?_
        refine r_getR (pc := 10) (ci := 1) C rfl 0 (by decide) (k_51 C.w) rfl (lay_O hg rfl) d_P_moveOut_10 ?_
        refine r_iload_n (pc := 13) C d_P_moveOut_13 rfl 3 rfl ?_
        refine r_iconst (pc := 14) C d_P_moveOut_14 (v := 4) (by decide) ?_
        refine r_idiv (pc := 15) C d_P_moveOut_15 (by decide) ?_
        refine r_dup2 (pc := 16) C d_P_moveOut_16 ?_
        obtain ⟨b1, h⟩ := h
        refine r_iald (pc := 17) C (lay_A hg rfl) b1 d_P_moveOut_17 ?_
        refine r_iconst (pc := 18) C d_P_moveOut_18 (v := 1) (by decide) ?_
        refine r_isub (pc := 19) C d_P_moveOut_19 ?_
        refine r_iast (pc := 20) C (lay_A hg rfl) b1 d_P_moveOut_20 ?_
        intro μ2 eμ2; replace h := h μ2 eμ2
        refine r_aload_n (pc := 21) C d_P_moveOut_21 rfl 0 rfl ?_
        refine r_getR (pc := 22) (ci := 1) C rfl 1 (by decide) (k_52 C.w) rfl (lay_O hg rfl) d_P_moveOut_22 ?_
        refine r_iload_n (pc := 25) C d_P_moveOut_25 rfl 3 rfl ?_
        refine r_iconst (pc := 26) C d_P_moveOut_26 (v := 4) (by decide) ?_
        refine r_idiv (pc := 27) C d_P_moveOut_27 (by decide) ?_
        refine r_iconst (pc := 28) C d_P_moveOut_28 (v := 1) (by decide) ?_
        refine r_zast (pc := 29) C (lay_A hg rfl) b1 d_P_moveOut_29 (Or.inr rfl) ?_
        intro μ3 eμ3; replace h := h μ3 eμ3
        refine r_iinc (pc := 30) (v := 1) (lv' := [(0, .inr (.inl (some 4))), (1, .inl l1), (2, .inl l2)]) C d_P_moveOut_30 3 rfl (by decide) (by decide) rfl ?_
        refine r_goto (tgt := 2) (pc := 33) C d_P_moveOut_33 (by decide) ?_
        refine r_sub [1, 2, 3, 0] rfl ?_
        exact ih (l3 + 1) μ3 h
  unfold wP_moveOut at h
  refine r_iload_n (pc := 0) C d_P_moveOut_0 rfl 1 rfl ?_
  refine r_istore_n (pc := 1) (lv' := [(0, .inr (.inl (some 4))), (1, .inl a1), (2, .inl a2)]) C d_P_moveOut_1 rfl (by decide) rfl ?_
  obtain ⟨n6, h⟩ := h
  refine r_sub [1, 2, 3, 0] rfl ?_
  refine L_2 a1 a2 _ ?_ n6 a1 μ h
  intro v5 μ4 h
  exact r_vret (pc := 36) C Q d_P_moveOut_36 (by decide) (by decide) h
theorem c_C_moveTo {l : Launch} (hl : l.stackTraces = false) {G : Gl} (hg : gf G = true) {a1 : Nat} {a2 : Int32} {post : Mem → Prop} {μ : Mem} (h : wC_moveTo a1 a2 post μ) : Ct l G i_C_moveTo [.inr (.inl (some 0)), .inr (.inl (some a1)), .inl a2] μ (poV post) noX := by
  refine ct_of hl (by decide) (Nat.le_of_ble_eq_true rfl) ?_
  intro K hKl C Q hE
  clear hl hKl
  replace C : Cx K G prog_1_method_23_code "LineCollector" 3 { frames := 2, cells := 0, slots := 0, locals := 45 } := C
  replace Q : Cq K G { frames := 2, cells := 0, slots := 0, locals := 45 } (none) (poV post) noX := Q
  show Rn K G 3 0 [(0, .inr (.inl (some 0))), (1, .inr (.inl (some a1))), (2, .inl a2)] [] μ 0 0
  unfold wC_moveTo at h
  refine r_iload_n (pc := 0) C d_C_moveTo_0 rfl 2 rfl ?_
  refine r_iconst (pc := 1) C d_C_moveTo_1 (v := (-1)) (by decide) ?_
  refine r_icmp_ne (tgt := 6) (pc := 2) C d_C_moveTo_2 (by decide) ?_ ?_
  · intro hc; replace h := h.2 hc
    refine r_aload_n (pc := 6) C d_C_moveTo_6 rfl 0 rfl ?_
    refine r_getR (pc := 7) (ci := 0) C rfl 2 (by decide) (k_108 C.w) rfl (lay_O hg rfl) d_C_moveTo_7 ?_
    refine r_aload_n (pc := 10) C d_C_moveTo_10 rfl 1 rfl ?_
    obtain ⟨o1, h⟩ := h
    refine r_getI (pc := 11) (ci := 5) C rfl 4 (by decide) (k_470 C.w) rfl (ok_O o1) d_C_moveTo_11 ?_
    refine r_null (pc := 14) C d_C_moveTo_14 ?_
    obtain ⟨b2, h⟩ := h
    refine r_aast (pc := 15) C (lay_A hg rfl) b2 d_C_moveTo_15 (fun y hy => by cases hy) ?_
    intro μ3 eμ3; replace h := h μ3 eμ3
    refine r_aload_n (pc := 16) C d_C_moveTo_16 rfl 0 rfl ?_
    refine r_getR (pc := 17) (ci := 0) C rfl 3 (by decide) (k_109 C.w) rfl (lay_O hg rfl) d_C_moveTo_17 ?_
    refine r_aload_n (pc := 20) C d_C_moveTo_20 rfl 1 rfl ?_
    refine r_getI (pc := 21) (ci := 5) C rfl 4 (by decide) (k_470 C.w) rfl (ok_O (ok_t eμ3 o1)) d_C_moveTo_21 ?_
    refine r_aload_n (pc := 24) C d_C_moveTo_24 rfl 1 rfl ?_
    refine r_getI (pc := 25) (ci := 5) C rfl 0 (by decide) (k_461 C.w) rfl (ok_O (ok_t eμ3 o1)) d_C_moveTo_25 ?_
    refine r_cVv (pc := 28) (a' := 0) (b' := 0) (As := [.inl (mI μ3 a1 4), .inl (mI μ3 a1 0)]) (ci := 1) C (c_P_moveOut C.s hg h) o_P_moveOut rfl (lay_O hg rfl) (k_253 C.w) rfl ⟨by decide, by decide, by decide, by decide⟩ rfl rfl (Nat.le_of_ble_eq_true rfl) d_C_moveTo_28 rfl ?_
    intro μ4 h
    refine r_aload_n (pc := 31) C d_C_moveTo_31 rfl 0 rfl ?_
    refine r_aload_n (pc := 32) C d_C_moveTo_32 rfl 1 rfl ?_
    refine r_iload_n (pc := 33) C d_C_moveTo_33 rfl 2 rfl ?_
    refine r_cVv (pc := 34) (a' := 0) (b' := 0) (As := [.inr (.inl (some a1)), .inl a2]) (ci := 0) C (c_C_settle C.s hg h) o_C_settle rfl (lay_O hg rfl) (k_257 C.w) rfl ⟨by decide, by decide, by decide, by decide⟩ rfl rfl (Nat.le_of_ble_eq_true rfl) d_C_moveTo_34 rfl ?_
    intro μ5 h
    refine r_aload_n (pc := 37) C d_C_moveTo_37 rfl 0 rfl ?_
    refine r_dupR (pc := 38) C d_C_moveTo_38 ?_
    refine r_getI (pc := 39) (ci := 0) C rfl 9 (by decide) (k_115 C.w) rfl (lay_O hg rfl) d_C_moveTo_39 ?_
    refine r_iconst (pc := 42) C d_C_moveTo_42 (v := 1) (by decide) ?_
    refine r_iadd (pc := 43) C d_C_moveTo_43 ?_
    refine r_putI (pc := 44) (ci := 0) C rfl 9 (by decide) (k_115 C.w) rfl rfl p_I (lay_O hg rfl) d_C_moveTo_44 ?_
    intro μ6 eμ6; replace h := h μ6 eμ6
    exact r_vret (pc := 47) C Q d_C_moveTo_47 (by decide) (by decide) h
  · intro hc; replace h := h.1 hc
    exact r_vret (pc := 5) C Q d_C_moveTo_5 (by decide) (by decide) h
theorem c_C_addFieldsToSlots {l : Launch} (hl : l.stackTraces = false) {G : Gl} (hg : gf G = true) {a1 : Nat} {post : Mem → Prop} {μ : Mem} (h : wC_addFieldsToSlots a1 post μ) : Ct l G i_C_addFieldsToSlots [.inr (.inl (some 0)), .inr (.inl (some a1))] μ (poV post) noX := by
  refine ct_of hl (by decide) (Nat.le_of_ble_eq_true rfl) ?_
  intro K hKl C Q hE
  clear hl hKl
  replace C : Cx K G prog_1_method_35_code "LineCollector" 6 { frames := 1, cells := 0, slots := 0, locals := 21 } := C
  replace Q : Cq K G { frames := 1, cells := 0, slots := 0, locals := 21 } (none) (poV post) noX := Q
  show Rn K G 6 0 [(0, .inr (.inl (some 0))), (1, .inr (.inl (some a1)))] [] μ 0 0
  have L_11 : ∀ (l2 : Nat) (l3 : Int32) (k : Int32 → Mem → Prop), (∀ (v4 : Int32) (μ : Mem), k v4 μ → Rn K G 6 38 [] [] μ 0 0) → ∀ (n : Nat) (l4 : Int32) (μ : Mem), wC_addFieldsToSlots_11 l2 l3 k n l4 μ → Rn K G 6 11 [(0, .inr (.inl (some 0))), (2, .inr (.inl (some l2))), (3, .inl l3), (4, .inl l4)] [] μ 0 0 := by
    intro l2 l3 k hk n
    induction n with
    | zero => intro l4 μ h; exact h.elim
    | succ n ih =>
      intro l4 μ h
      unfold wC_addFieldsToSlots_11 at h
      refine r_iload (pc := 11) C d_C_addFieldsToSlots_11 3 rfl ?_
      refine r_iload_n (pc := 13) C d_C_addFieldsToSlots_13 rfl 2 rfl ?_
      refine r_icmp_ge (tgt := 38) (pc := 14) C d_C_addFieldsToSlots_14 (by decide) ?_ ?_
      · intro hc; replace h := h.1 hc
        refine r_sub [] rfl ?_
        exact hk l4 μ h
      · intro hc; replace h := h.2 hc
        refine r_aload_n (pc := 17) C d_C_addFieldsToSlots_17 rfl 1 rfl ?_
        refine r_iload (pc := 18) C d_C_addFieldsToSlots_18 3 rfl ?_
        obtain ⟨o3, h⟩ := h
        obtain ⟨b4, h⟩ := h
        refine r_aald (pc := 20) C (ok_A o3) b4 d_C_addFieldsToSlots_20 ?_
        intro e5 he5; replace h := h e5 he5
        refine r_astore (pc := 21) (lv' := [(0, .inr (.inl (some 0))), (2, .inr (.inl (some l2))), (3, .inl l3), (4, .inl l4)]) C d_C_addFieldsToSlots_21 (by decide) rfl ?_
        refine r_aload_n (pc := 23) C d_C_addFieldsToSlots_23 rfl 1 rfl ?_
        refine r_getR (pc := 24) (ci := 0) C rfl 6 (by decide) (k_112 C.w) rfl (lay_O hg rfl) d_C_addFieldsToSlots_24 ?_
        refine r_aload (pc := 27) C d_C_addFieldsToSlots_27 0 rfl ?_
        refine r_cVv (pc := 29) (a' := 0) (b' := 0) (As := [.inr (.inl e5)]) (ci := 4) C (c_W_add C.s hg h) o_W_add rfl (lay_O hg rfl) (k_165 C.w) rfl ⟨by decide, by decide, by decide, by decide⟩ rfl rfl (Nat.le_of_ble_eq_true rfl) d_C_addFieldsToSlots_29 rfl ?_
        intro μ6 h
        refine r_iinc (pc := 32) (v := 1) (lv' := [(5, .inr (.inl e5)), (0, .inr (.inl (some 0))), (2, .inr (.inl (some l2))), (3, .inl l3)]) C d_C_addFieldsToSlots_32 4 rfl (by decide) (by decide) rfl ?_
        refine r_goto (tgt := 11) (pc := 35) C d_C_addFieldsToSlots_35 (by decide) ?_
        refine r_sub [2, 3, 4, 0] rfl ?_
        exact ih (l4 + 1) μ6 h
  unfold wC_addFieldsToSlots at h
  refine r_aload_n (pc := 0) C d_C_addFieldsToSlots_0 rfl 1 rfl ?_
  obtain ⟨o1, h⟩ := h
  refine r_getR (pc := 1) (ci := 5) C rfl 2 (by decide) (k_466 C.w) rfl (ok_O o1) d_C_addFieldsToSlots_1 ?_
  refine r_astore_n (pc := 4) (lv' := [(0, .inr (.inl (some 0))), (1, .inr (.inl (some a1)))]) C d_C_addFieldsToSlots_4 rfl (by decide) rfl ?_
  refine r_aload_n (pc := 5) C d_C_addFieldsToSlots_5 rfl 0 rfl ?_
  obtain ⟨o2, h⟩ := h
  refine r_alenQ (pc := 6) (v := nI (mL μ (a1 + 1))) C (ok_A o2) rfl d_C_addFieldsToSlots_6 ?_
  refine r_istore_n (pc := 7) (lv' := [(2, .inr (.inl (some (a1 + 1)))), (0, .inr (.inl (some 0))), (1, .inr (.inl (some a1)))]) C d_C_addFieldsToSlots_7 rfl (by decide) rfl ?_
  refine r_iconst (pc := 8) C d_C_addFieldsToSlots_8 (v := 0) (by decide) ?_
  refine r_istore (pc := 9) (lv' := [(3, .inl (nI (mL μ (a1 + 1)))), (2, .inr (.inl (some (a1 + 1)))), (0, .inr (.inl (some 0))), (1, .inr (.inl (some a1)))]) C d_C_addFieldsToSlots_9 (by decide) rfl ?_
  obtain ⟨n9, h⟩ := h
  refine r_sub [3, 2, 1, 0] rfl ?_
  refine L_11 (a1 + 1) (nI (mL μ (a1 + 1))) _ ?_ n9 0 μ h
  intro v8 μ7 h
  exact r_vret (pc := 38) C Q d_C_addFieldsToSlots_38 (by decide) (by decide) h
theorem c_P_forgetMovedOut {l : Launch} (hl : l.stackTraces = false) {G : Gl} (hg : gf G = true) {post : Mem → Prop} {μ : Mem} (h : wP_forgetMovedOut post μ) : Ct l G i_P_forgetMovedOut [.inr (.inl (some 4))] μ (poV post) noX := by
  refine ct_of hl (by decide) (Nat.le_of_ble_eq_true rfl) ?_
  intro K hKl C Q hE
  clear hl hKl
  replace C : Cx K G prog_4_method_7_code "LineCollector$Places" 2 { frames := 0, cells := 0, slots := 0, locals := 0 } := C
  replace Q : Cq K G { frames := 0, cells := 0, slots := 0, locals := 0 } (none) (poV post) noX := Q
  show Rn K G 2 0 [(0, .inr (.inl (some 4)))] [] μ 0 0
  have L_2 : ∀ (k : Int32 → Mem → Prop), (∀ (v1 : Int32) (μ : Mem), k v1 μ → Rn K G 2 21 [] [] μ 0 0) → ∀ (n : Nat) (l1 : Int32) (μ : Mem), wP_forgetMovedOut_2 k n l1 μ → Rn K G 2 2 [(0, .inr (.inl (some 4))), (1, .inl l1)] [] μ 0 0 := by
    intro k hk n
    induction n with
    | zero => intro l1 μ h; exact h.elim
    | succ n ih =>
      intro l1 μ h
      unfold wP_forgetMovedOut_2 at h
      refine r_iload_n (pc := 2) C d_P_forgetMovedOut_2 rfl 1 rfl ?_
      refine r_bipush (pc := 3) C d_P_forgetMovedOut_3 (v := 32) (by decide) ?_
      refine r_icmp_ge (tgt := 21) (pc := 5) C d_P_forgetMovedOut_5 (by decide) ?_ ?_
      · intro hc; replace h := h.1 hc
        refine r_sub [] rfl ?_
        exact hk l1 μ h
      · intro hc; replace h := h.2 hc
        refine r_aload_n (pc := 8) C d_P_forgetMovedOut_8 rfl 0 rfl ?_
        refine r_getR (pc := 9) (ci := 1) C rfl 1 (by decide) (k_52 C.w) rfl (lay_O hg rfl) d_P_forgetMovedOut_9 ?_
        refine r_iload_n (pc := 12) C d_P_forgetMovedOut_12 rfl 1 rfl ?_
        refine r_iconst (pc := 13) C d_P_forgetMovedOut_13 (v := 0) (by decide) ?_
        obtain ⟨b1, h⟩ := h
        refine r_zast (pc := 14) C (lay_A hg rfl) b1 d_P_forgetMovedOut_14 (Or.inl rfl) ?_
        intro μ2 eμ2; replace h := h μ2 eμ2
        refine r_iinc (pc := 15) (v := 1) (lv' := [(0, .inr (.inl (some 4)))]) C d_P_forgetMovedOut_15 1 rfl (by decide) (by decide) rfl ?_
        refine r_goto (tgt := 2) (pc := 18) C d_P_forgetMovedOut_18 (by decide) ?_
        refine r_sub [1, 0] rfl ?_
        exact ih (l1 + 1) μ2 h
  unfold wP_forgetMovedOut at h
  refine r_iconst (pc := 0) C d_P_forgetMovedOut_0 (v := 0) (by decide) ?_
  refine r_istore_n (pc := 1) (lv' := [(0, .inr (.inl (some 4)))]) C d_P_forgetMovedOut_1 rfl (by decide) rfl ?_
  obtain ⟨n5, h⟩ := h
  refine r_sub [1, 0] rfl ?_
  refine L_2 _ ?_ n5 0 μ h
  intro v4 μ3 h
  exact r_vret (pc := 21) C Q d_P_forgetMovedOut_21 (by decide) (by decide) h
theorem c_C_countSlots {l : Launch} (hl : l.stackTraces = false) {G : Gl} (hg : gf G = true) {post : Int32 → Mem → Prop} {μ : Mem} (h : wC_countSlots post μ) : Ct l G i_C_countSlots [.inr (.inl (some 0))] μ (poI post) noX := by
  refine ct_of hl (by decide) (Nat.le_of_ble_eq_true rfl) ?_
  intro K hKl C Q hE
  clear hl hKl
  replace C : Cx K G prog_1_method_33_code "LineCollector" 4 { frames := 4, cells := 0, slots := 0, locals := 88 } := C
  replace Q : Cq K G { frames := 4, cells := 0, slots := 0, locals := 88 } (some .int) (poI post) noX := Q
  show Rn K G 4 0 [(0, .inr (.inl (some 0)))] [] μ 0 0
  have J_82 : ∀ (l1 : Int32) (l2 : Int32) (l3 : Nat) (t0 : Nat) (t1 : Int32) (k8 : Int32 → Int32 → Mem → Prop) , (∀ (v1 : Int32) (v2 : Int32) (μ : Mem), k8 v1 v2 μ → Rn K G 4 8 [(0, .inr (.inl (some 0))), (1, .inl v1), (2, .inl v2)] [] μ 0 0) → ∀ (μ : Mem), wC_countSlots_82 l1 l2 l3 t0 t1 k8 μ → Rn K G 4 82 [(0, .inr (.inl (some 0))), (1, .inl l1), (2, .inl l2), (3, .inr (.inl (some l3)))] [.int t1, rv G (some t0)] μ 0 0 := by
    intro l1 l2 l3 t0 t1 k8 hk8 μ h
    unfold wC_countSlots_82 at h
    obtain ⟨o8, h⟩ := h
    refine r_cVv (pc := 82) (a' := 0) (b' := 0) (As := [.inl t1]) (ci := 5) C (c_I_growOld C.s hg h) o_I_growOld rfl (ok_O o8) (k_213 C.w) rfl ⟨by decide, by decide, by decide, by decide⟩ rfl rfl (Nat.le_of_ble_eq_true rfl) d_C_countSlots_82 rfl ?_
    intro μ9 h
    refine r_aload_n (pc := 85) C d_C_countSlots_85 rfl 0 rfl ?_
    refine r_aload_n (pc := 86) C d_C_countSlots_86 rfl 3 rfl ?_
    refine r_aload_n (pc := 87) C d_C_countSlots_87 rfl 0 rfl ?_
    refine r_getR (pc := 88) (ci := 0) C rfl 3 (by decide) (k_109 C.w) rfl (lay_O hg rfl) d_C_countSlots_88 ?_
    refine r_aload_n (pc := 91) C d_C_countSlots_91 rfl 3 rfl ?_
    obtain ⟨o10, h⟩ := h
    refine r_getI (pc := 92) (ci := 5) C rfl 0 (by decide) (k_461 C.w) rfl (ok_O o10) d_C_countSlots_92 ?_
    refine r_cVi (pc := 95) (a' := 0) (b' := 0) (As := [.inl (mI μ9 l3 0)]) (ci := 1) C (c_P_find C.s hg h) o_P_find rfl (lay_O hg rfl) (k_217 C.w) rfl ⟨by decide, by decide, by decide, by decide⟩ rfl rfl (Nat.le_of_ble_eq_true rfl) d_C_countSlots_95 rfl ?_
    intro r12 μ11 h
    refine r_cVv (pc := 98) (a' := 0) (b' := 0) (As := [.inr (.inl (some l3)), .inl r12]) (ci := 0) C (c_C_moveTo C.s hg h) o_C_moveTo rfl (lay_O hg rfl) (k_249 C.w) rfl ⟨by decide, by decide, by decide, by decide⟩ rfl rfl (Nat.le_of_ble_eq_true rfl) d_C_countSlots_98 rfl ?_
    intro μ13 h
    refine r_aload_n (pc := 101) C d_C_countSlots_101 rfl 0 rfl ?_
    refine r_aload_n (pc := 102) C d_C_countSlots_102 rfl 3 rfl ?_
    refine r_cVv (pc := 103) (a' := 0) (b' := 0) (As := [.inr (.inl (some l3))]) (ci := 0) C (c_C_addFieldsToSlots C.s hg h) o_C_addFieldsToSlots rfl (lay_O hg rfl) (k_265 C.w) rfl ⟨by decide, by decide, by decide, by decide⟩ rfl rfl (Nat.le_of_ble_eq_true rfl) d_C_countSlots_103 rfl ?_
    intro μ14 h
    refine r_iinc (pc := 106) (v := 1) (lv' := [(0, .inr (.inl (some 0))), (1, .inl l1), (3, .inr (.inl (some l3)))]) C d_C_countSlots_106 2 rfl (by decide) (by decide) rfl ?_
    refine r_goto (tgt := 8) (pc := 109) C d_C_countSlots_109 (by decide) ?_
    refine r_sub [1, 2, 0] rfl ?_
    exact hk8 l1 (l2 + 1) μ14 h
  have L_8 : ∀ (k : Int32 → Int32 → Mem → Prop), (∀ (v1 : Int32) (v2 : Int32) (μ : Mem), k v1 v2 μ → Rn K G 4 112 [(0, .inr (.inl (some 0))), (1, .inl v1)] [] μ 0 0) → ∀ (n : Nat) (l1 : Int32) (l2 : Int32) (μ : Mem), wC_countSlots_8 k n l1 l2 μ → Rn K G 4 8 [(0, .inr (.inl (some 0))), (1, .inl l1), (2, .inl l2)] [] μ 0 0 := by
    intro k hk n
    induction n with
    | zero => intro l1 l2 μ h; exact h.elim
    | succ n ih =>
      intro l1 l2 μ h
      unfold wC_countSlots_8 at h
      refine r_iload_n (pc := 8) C d_C_countSlots_8 rfl 2 rfl ?_
      refine r_sipush (pc := 9) C d_C_countSlots_9 (v := 262) (by decide) ?_
      refine r_icmp_ge (tgt := 112) (pc := 12) C d_C_countSlots_12 (by decide) ?_ ?_
      · intro hc; replace h := h.1 hc
        refine r_sub [0, 1] rfl ?_
        exact hk l1 l2 μ h
      · intro hc; replace h := h.2 hc
        refine r_iload_n (pc := 15) C d_C_countSlots_15 rfl 2 rfl ?_
        refine r_aload_n (pc := 16) C d_C_countSlots_16 rfl 0 rfl ?_
        refine r_getR (pc := 17) (ci := 0) C rfl 6 (by decide) (k_112 C.w) rfl (lay_O hg rfl) d_C_countSlots_17 ?_
        refine r_getI (pc := 20) (ci := 4) C rfl 2 (by decide) (k_98 C.w) rfl (lay_O hg rfl) d_C_countSlots_20 ?_
        refine r_icmp_ge (tgt := 112) (pc := 23) C d_C_countSlots_23 (by decide) ?_ ?_
        · intro hc; replace h := h.1 hc
          refine r_sub [0, 1] rfl ?_
          exact hk l1 l2 μ h
        · intro hc; replace h := h.2 hc
          refine r_aload_n (pc := 26) C d_C_countSlots_26 rfl 0 rfl ?_
          refine r_getR (pc := 27) (ci := 0) C rfl 6 (by decide) (k_112 C.w) rfl (lay_O hg rfl) d_C_countSlots_27 ?_
          refine r_iload_n (pc := 30) C d_C_countSlots_30 rfl 2 rfl ?_
          refine r_cVq (pc := 31) (a' := 0) (b' := 0) (As := [.inl l2]) (ci := 4) C (c_W_get C.s hg h) o_W_get rfl (lay_O hg rfl) (k_205 C.w) rfl ⟨by decide, by decide, by decide, by decide⟩ rfl rfl (Nat.le_of_ble_eq_true rfl) d_C_countSlots_31 rfl ?_
          intro r3 μ2 h
          refine r_astore_n (pc := 34) (lv' := [(0, .inr (.inl (some 0))), (1, .inl l1), (2, .inl l2)]) C d_C_countSlots_34 rfl (by decide) rfl ?_
          refine r_aload_n (pc := 35) C d_C_countSlots_35 rfl 0 rfl ?_
          refine r_ifnonnull (tgt := 42) (pc := 36) C d_C_countSlots_36 (by decide) ?_ ?_
          · intro y4 h0; subst h0; replace h := h.2 y4 rfl
            refine r_aload_n (pc := 42) C d_C_countSlots_42 rfl 0 rfl ?_
            obtain ⟨o5, h⟩ := h
            refine r_cVi (pc := 43) (a' := 0) (b' := 0) (As := []) (ci := 5) C (c_I_isOld C.s hg h) o_I_isOld rfl (ok_O o5) (k_209 C.w) rfl ⟨by decide, by decide, by decide, by decide⟩ rfl rfl (Nat.le_of_ble_eq_true rfl) d_C_countSlots_43 rfl ?_
            intro r7 μ6 h
            refine r_if_eq (tgt := 66) (pc := 46) C d_C_countSlots_46 (by decide) ?_ ?_
            · intro hc; replace h := h.1 hc
              refine r_iinc (pc := 66) (v := 1) (lv' := [(3, .inr (.inl (some y4))), (0, .inr (.inl (some 0))), (2, .inl l2)]) C d_C_countSlots_66 2 rfl (by decide) (by decide) rfl ?_
              refine r_aload_n (pc := 69) C d_C_countSlots_69 rfl 1 rfl ?_
              refine r_aload_n (pc := 70) C d_C_countSlots_70 rfl 2 rfl ?_
              refine r_getI (pc := 71) (ci := 0) C rfl 7 (by decide) (k_113 C.w) rfl (lay_O hg rfl) d_C_countSlots_71 ?_
              refine r_if_eq (tgt := 81) (pc := 74) C d_C_countSlots_74 (by decide) ?_ ?_
              · intro hc; replace h := h.1 hc
                refine r_iconst (pc := 81) C d_C_countSlots_81 (v := 0) (by decide) ?_
                refine r_sub [2, 0, 3, 1] rfl ?_
                exact J_82 (l1 + 1) l2 y4 y4 0 ((wC_countSlots_8 k n)) ih μ6 h
              · intro hc; replace h := h.2 hc
                refine r_iconst (pc := 77) C d_C_countSlots_77 (v := 2) (by decide) ?_
                refine r_goto (tgt := 82) (pc := 78) C d_C_countSlots_78 (by decide) ?_
                refine r_sub [2, 0, 3, 1] rfl ?_
                exact J_82 (l1 + 1) l2 y4 y4 2 ((wC_countSlots_8 k n)) ih μ6 h
            · intro hc; replace h := h.2 hc
              refine r_aload_n (pc := 49) C d_C_countSlots_49 rfl 0 rfl ?_
              refine r_aload_n (pc := 50) C d_C_countSlots_50 rfl 0 rfl ?_
              obtain ⟨o15, h⟩ := h
              refine r_getI (pc := 51) (ci := 5) C rfl 5 (by decide) (k_472 C.w) rfl (ok_O o15) d_C_countSlots_51 ?_
              refine r_iconst (pc := 54) C d_C_countSlots_54 (v := 1) (by decide) ?_
              refine r_iadd (pc := 55) C d_C_countSlots_55 ?_
              refine r_iconst (pc := 56) C d_C_countSlots_56 (v := 3) (by decide) ?_
              refine r_min (pc := 57) C (k_210 C.w) (x_minS C.w) (x_minI C.w) (x_minC C.w) ⟨by decide, Nat.le_of_ble_eq_true rfl, by decide, by decide⟩ d_C_countSlots_57 ?_
              refine r_putI (pc := 60) (ci := 5) C rfl 5 (by decide) (k_472 C.w) rfl rfl p_I (ok_O o15) d_C_countSlots_60 ?_
              intro μ16 eμ16; replace h := h μ16 eμ16
              refine r_goto (tgt := 106) (pc := 63) C d_C_countSlots_63 (by decide) ?_
              refine r_iinc (pc := 106) (v := 1) (lv' := [(3, .inr (.inl (some y4))), (0, .inr (.inl (some 0))), (1, .inl l1)]) C d_C_countSlots_106 3 rfl (by decide) (by decide) rfl ?_
              refine r_goto (tgt := 8) (pc := 109) C d_C_countSlots_109 (by decide) ?_
              refine r_sub [2, 3, 0] rfl ?_
              exact ih l1 (l2 + 1) μ16 h
          · intro h0; subst h0; replace h := h.1 rfl
            refine r_goto (tgt := 106) (pc := 39) C d_C_countSlots_39 (by decide) ?_
            refine r_iinc (pc := 106) (v := 1) (lv' := [(3, .inr (.inl none)), (0, .inr (.inl (some 0))), (1, .inl l1)]) C d_C_countSlots_106 3 rfl (by decide) (by decide) rfl ?_
            refine r_goto (tgt := 8) (pc := 109) C d_C_countSlots_109 (by decide) ?_
            refine r_sub [2, 3, 0] rfl ?_
            exact ih l1 (l2 + 1) μ2 h
  unfold wC_countSlots at h
  refine r_aload_n (pc := 0) C d_C_countSlots_0 rfl 0 rfl ?_
  refine r_cVv (pc := 1) (a' := 0) (b' := 0) (As := []) (ci := 0) C (c_C_gatherSlots C.s hg h) o_C_gatherSlots rfl (lay_O hg rfl) (k_193 C.w) rfl ⟨by decide, by decide, by decide, by decide⟩ rfl rfl (Nat.le_of_ble_eq_true rfl) d_C_countSlots_1 rfl ?_
  intro μ1 h
  refine r_iconst (pc := 4) C d_C_countSlots_4 (v := 0) (by decide) ?_
  refine r_istore_n (pc := 5) (lv' := [(0, .inr (.inl (some 0)))]) C d_C_countSlots_5 rfl (by decide) rfl ?_
  refine r_iconst (pc := 6) C d_C_countSlots_6 (v := 0) (by decide) ?_
  refine r_istore_n (pc := 7) (lv' := [(1, .inl 0), (0, .inr (.inl (some 0)))]) C d_C_countSlots_7 rfl (by decide) rfl ?_
  obtain ⟨n21, h⟩ := h
  refine r_sub [2, 1, 0] rfl ?_
  refine L_8 _ ?_ n21 0 0 μ1 h
  intro v18 v19 μ17 h
  refine r_aload_n (pc := 112) C d_C_countSlots_112 rfl 0 rfl ?_
  refine r_getR (pc := 113) (ci := 0) C rfl 3 (by decide) (k_109 C.w) rfl (lay_O hg rfl) d_C_countSlots_113 ?_
  refine r_cVv (pc := 116) (a' := 0) (b' := 0) (As := []) (ci := 1) C (c_P_forgetMovedOut C.s hg h) o_P_forgetMovedOut rfl (lay_O hg rfl) (k_269 C.w) rfl ⟨by decide, by decide, by decide, by decide⟩ rfl rfl (Nat.le_of_ble_eq_true rfl) d_C_countSlots_116 rfl ?_
  intro μ20 h
  refine r_iload_n (pc := 119) C d_C_countSlots_119 rfl 1 rfl ?_
  exact r_iret (pc := 120) C Q d_C_countSlots_120 (by decide) (by decide) h
