/-! The machine meets the predicates (written by a program) -/
theorem c_C_loseYoung {l : Launch} (hl : l.stackTraces = false) {G : Gl} (hg : gf G = true) {post : Mem → Prop} {μ : Mem} (h : wC_loseYoung post μ) : Ct l G i_C_loseYoung [.inr (.inl (some 0))] μ (poV post) noX := by
  refine ct_of hl (by decide) (Nat.le_of_ble_eq_true rfl) ?_
  intro K hKl C Q hE
  clear hl hKl
  replace C : Cx K G prog_1_method_36_code "LineCollector" 5 { frames := 2, cells := 0, slots := 0, locals := 44 } := C
  replace Q : Cq K G { frames := 2, cells := 0, slots := 0, locals := 44 } (none) (poV post) noX := Q
  show Rn K G 5 0 [(0, .inr (.inl (some 0)))] [] μ 0 0
  have L_10 : ∀ (l2 : Int32) (k : Int32 → Mem → Prop), (∀ (v3 : Int32) (μ : Mem), k v3 μ → Rn K G 5 45 [] [] μ 0 0) → ∀ (n : Nat) (l3 : Int32) (μ : Mem), wC_loseYoung_10 l2 k n l3 μ → Rn K G 5 10 [(0, .inr (.inl (some 0))), (1, .inr (.inl (some 3))), (2, .inl l2), (3, .inl l3)] [] μ 0 0 := by
    intro l2 k hk n
    induction n with
    | zero => intro l3 μ h; exact h.elim
    | succ n ih =>
      intro l3 μ h
      unfold wC_loseYoung_10 at h
      refine r_iload_n (pc := 10) C d_C_loseYoung_10 rfl 3 rfl ?_
      refine r_iload_n (pc := 11) C d_C_loseYoung_11 rfl 2 rfl ?_
      refine r_icmp_ge (tgt := 45) (pc := 12) C d_C_loseYoung_12 (by decide) ?_ ?_
      · intro hc; replace h := h.1 hc
        refine r_sub [] rfl ?_
        exact hk l3 μ h
      · intro hc; replace h := h.2 hc
        refine r_aload_n (pc := 15) C d_C_loseYoung_15 rfl 1 rfl ?_
        refine r_iload_n (pc := 16) C d_C_loseYoung_16 rfl 3 rfl ?_
        obtain ⟨b1, h⟩ := h
        refine r_aald (pc := 17) C (lay_A hg rfl) b1 d_C_loseYoung_17 ?_
        intro e2 he2; replace h := h e2 he2
        refine r_astore (pc := 18) (lv' := [(0, .inr (.inl (some 0))), (1, .inr (.inl (some 3))), (2, .inl l2), (3, .inl l3)]) C d_C_loseYoung_18 (by decide) rfl ?_
        refine r_aload (pc := 20) C d_C_loseYoung_20 0 rfl ?_
        refine r_ifnull (tgt := 39) (pc := 22) C d_C_loseYoung_22 (by decide) ?_ ?_
        · intro h0; subst h0; replace h := h.1 rfl
          refine r_iinc (pc := 39) (v := 1) (lv' := [(4, .inr (.inl none)), (0, .inr (.inl (some 0))), (1, .inr (.inl (some 3))), (2, .inl l2)]) C d_C_loseYoung_39 4 rfl (by decide) (by decide) rfl ?_
          refine r_goto (tgt := 10) (pc := 42) C d_C_loseYoung_42 (by decide) ?_
          refine r_sub [2, 3, 4, 0] rfl ?_
          exact ih (l3 + 1) μ h
        · intro y3 h0; subst h0; replace h := h.2 y3 rfl
          refine r_aload (pc := 25) C d_C_loseYoung_25 0 rfl ?_
          obtain ⟨o4, h⟩ := h
          refine r_cVi (pc := 27) (a' := 0) (b' := 0) (As := []) (ci := 5) C (c_I_isOld C.s hg h) o_I_isOld rfl (ok_O o4) (k_209 C.w) rfl ⟨by decide, by decide, by decide, by decide⟩ rfl rfl (Nat.le_of_ble_eq_true rfl) d_C_loseYoung_27 rfl ?_
          intro r6 μ5 h
          refine r_if_ne (tgt := 39) (pc := 30) C d_C_loseYoung_30 (by decide) ?_ ?_
          · intro hc; replace h := h.2 hc
            refine r_iinc (pc := 39) (v := 1) (lv' := [(4, .inr (.inl (some y3))), (0, .inr (.inl (some 0))), (1, .inr (.inl (some 3))), (2, .inl l2)]) C d_C_loseYoung_39 4 rfl (by decide) (by decide) rfl ?_
            refine r_goto (tgt := 10) (pc := 42) C d_C_loseYoung_42 (by decide) ?_
            refine r_sub [2, 3, 4, 0] rfl ?_
            exact ih (l3 + 1) μ5 h
          · intro hc; replace h := h.1 hc
            refine r_aload_n (pc := 33) C d_C_loseYoung_33 rfl 1 rfl ?_
            refine r_aload (pc := 34) C d_C_loseYoung_34 0 rfl ?_
            refine r_cVv (pc := 36) (a' := 0) (b' := 0) (As := [.inr (.inl (some y3))]) (ci := 0) C (c_C_remove C.s hg h) o_C_remove rfl (lay_O hg rfl) (k_157 C.w) rfl ⟨by decide, by decide, by decide, by decide⟩ rfl rfl (Nat.le_of_ble_eq_true rfl) d_C_loseYoung_36 rfl ?_
            intro μ7 h
            refine r_iinc (pc := 39) (v := 1) (lv' := [(4, .inr (.inl (some y3))), (0, .inr (.inl (some 0))), (1, .inr (.inl (some 3))), (2, .inl l2)]) C d_C_loseYoung_39 4 rfl (by decide) (by decide) rfl ?_
            refine r_goto (tgt := 10) (pc := 42) C d_C_loseYoung_42 (by decide) ?_
            refine r_sub [2, 3, 4, 0] rfl ?_
            exact ih (l3 + 1) μ7 h
  unfold wC_loseYoung at h
  refine r_aload_n (pc := 0) C d_C_loseYoung_0 rfl 0 rfl ?_
  refine r_getR (pc := 1) (ci := 0) C rfl 2 (by decide) (k_108 C.w) rfl (lay_O hg rfl) d_C_loseYoung_1 ?_
  refine r_astore_n (pc := 4) (lv' := [(0, .inr (.inl (some 0)))]) C d_C_loseYoung_4 rfl (by decide) rfl ?_
  refine r_aload_n (pc := 5) C d_C_loseYoung_5 rfl 0 rfl ?_
  refine r_alenQ (pc := 6) (v := 128) C (lay_A hg rfl) (by decide) d_C_loseYoung_6 ?_
  refine r_istore_n (pc := 7) (lv' := [(1, .inr (.inl (some 3))), (0, .inr (.inl (some 0)))]) C d_C_loseYoung_7 rfl (by decide) rfl ?_
  refine r_iconst (pc := 8) C d_C_loseYoung_8 (v := 0) (by decide) ?_
  refine r_istore_n (pc := 9) (lv' := [(2, .inl 128), (1, .inr (.inl (some 3))), (0, .inr (.inl (some 0)))]) C d_C_loseYoung_9 rfl (by decide) rfl ?_
  obtain ⟨n10, h⟩ := h
  refine r_sub [3, 2, 1, 0] rfl ?_
  refine L_10 128 _ ?_ n10 0 μ h
  intro v9 μ8 h
  exact r_vret (pc := 45) C Q d_C_loseYoung_45 (by decide) (by decide) h
theorem c_G_heldBefore {l : Launch} (hl : l.stackTraces = false) {G : Gl} (hg : gf G = true) {a1 : Int32} {post : Option Nat → Mem → Prop} {μ : Mem} (h : wG_heldBefore a1 post μ) : Ct l G i_G_heldBefore [.inr (.inl (some 9)), .inl a1] μ (poQ G post) noX := by
  refine ct_of hl (by decide) (Nat.le_of_ble_eq_true rfl) ?_
  intro K hKl C Q hE
  clear hl hKl
  replace C : Cx K G prog_3_method_4_code "LineCollector$Log" 2 { frames := 0, cells := 0, slots := 0, locals := 0 } := C
  replace Q : Cq K G { frames := 0, cells := 0, slots := 0, locals := 0 } (some (.object "LineCollector$Item")) (poQ G post) noX := Q
  show Rn K G 2 0 [(0, .inr (.inl (some 9))), (1, .inl a1)] [] μ 0 0
  unfold wG_heldBefore at h
  refine r_aload_n (pc := 0) C d_G_heldBefore_0 rfl 0 rfl ?_
  refine r_getR (pc := 1) (ci := 3) C rfl 2 (by decide) (k_76 C.w) rfl (lay_O hg rfl) d_G_heldBefore_1 ?_
  refine r_iload_n (pc := 4) C d_G_heldBefore_4 rfl 1 rfl ?_
  obtain ⟨b1, h⟩ := h
  refine r_aald (pc := 5) C (lay_A hg rfl) b1 d_G_heldBefore_5 ?_
  intro e2 he2; replace h := h e2 he2
  exact r_aret (pc := 6) C Q d_G_heldBefore_6 (by decide) (by decide) h
theorem c_G_clear {l : Launch} (hl : l.stackTraces = false) {G : Gl} (hg : gf G = true) {post : Mem → Prop} {μ : Mem} (h : wG_clear post μ) : Ct l G i_G_clear [.inr (.inl (some 9))] μ (poV post) noX := by
  refine ct_of hl (by decide) (Nat.le_of_ble_eq_true rfl) ?_
  intro K hKl C Q hE
  clear hl hKl
  replace C : Cx K G prog_3_method_5_code "LineCollector$Log" 2 { frames := 0, cells := 0, slots := 0, locals := 0 } := C
  replace Q : Cq K G { frames := 0, cells := 0, slots := 0, locals := 0 } (none) (poV post) noX := Q
  show Rn K G 2 0 [(0, .inr (.inl (some 9)))] [] μ 0 0
  have L_2 : ∀ (k : Int32 → Mem → Prop), (∀ (v1 : Int32) (μ : Mem), k v1 μ → Rn K G 2 33 [(0, .inr (.inl (some 9)))] [] μ 0 0) → ∀ (n : Nat) (l1 : Int32) (μ : Mem), wG_clear_2 k n l1 μ → Rn K G 2 2 [(0, .inr (.inl (some 9))), (1, .inl l1)] [] μ 0 0 := by
    intro k hk n
    induction n with
    | zero => intro l1 μ h; exact h.elim
    | succ n ih =>
      intro l1 μ h
      unfold wG_clear_2 at h
      refine r_iload_n (pc := 2) C d_G_clear_2 rfl 1 rfl ?_
      refine r_aload_n (pc := 3) C d_G_clear_3 rfl 0 rfl ?_
      refine r_getI (pc := 4) (ci := 3) C rfl 3 (by decide) (k_77 C.w) rfl (lay_O hg rfl) d_G_clear_4 ?_
      refine r_icmp_ge (tgt := 33) (pc := 7) C d_G_clear_7 (by decide) ?_ ?_
      · intro hc; replace h := h.1 hc
        refine r_sub [0] rfl ?_
        exact hk l1 μ h
      · intro hc; replace h := h.2 hc
        refine r_aload_n (pc := 10) C d_G_clear_10 rfl 0 rfl ?_
        refine r_getR (pc := 11) (ci := 3) C rfl 0 (by decide) (k_74 C.w) rfl (lay_O hg rfl) d_G_clear_11 ?_
        refine r_iload_n (pc := 14) C d_G_clear_14 rfl 1 rfl ?_
        obtain ⟨b1, h⟩ := h
        refine r_aald (pc := 15) C (lay_A hg rfl) b1 d_G_clear_15 ?_
        intro e2 he2; replace h := h e2 he2
        obtain ⟨y3, rfl, h⟩ := h
        obtain ⟨o4, h⟩ := h
        refine r_getR (pc := 16) (ci := 5) C rfl 3 (by decide) (k_468 C.w) rfl (ok_O o4) d_G_clear_16 ?_
        refine r_aload_n (pc := 19) C d_G_clear_19 rfl 0 rfl ?_
        refine r_getR (pc := 20) (ci := 3) C rfl 1 (by decide) (k_75 C.w) rfl (lay_O hg rfl) d_G_clear_20 ?_
        refine r_iload_n (pc := 23) C d_G_clear_23 rfl 1 rfl ?_
        refine r_iald (pc := 24) C (lay_A hg rfl) b1 d_G_clear_24 ?_
        refine r_iconst (pc := 25) C d_G_clear_25 (v := 0) (by decide) ?_
        obtain ⟨o5, h⟩ := h
        obtain ⟨b6, h⟩ := h
        refine r_zast (pc := 26) C (ok_A o5) b6 d_G_clear_26 (Or.inl rfl) ?_
        intro μ7 eμ7; replace h := h μ7 eμ7
        refine r_iinc (pc := 27) (v := 1) (lv' := [(0, .inr (.inl (some 9)))]) C d_G_clear_27 1 rfl (by decide) (by decide) rfl ?_
        refine r_goto (tgt := 2) (pc := 30) C d_G_clear_30 (by decide) ?_
        refine r_sub [1, 0] rfl ?_
        exact ih (l1 + 1) μ7 h
  unfold wG_clear at h
  refine r_iconst (pc := 0) C d_G_clear_0 (v := 0) (by decide) ?_
  refine r_istore_n (pc := 1) (lv' := [(0, .inr (.inl (some 9)))]) C d_G_clear_1 rfl (by decide) rfl ?_
  obtain ⟨n11, h⟩ := h
  refine r_sub [1, 0] rfl ?_
  refine L_2 _ ?_ n11 0 μ h
  intro v9 μ8 h
  refine r_aload_n (pc := 33) C d_G_clear_33 rfl 0 rfl ?_
  refine r_iconst (pc := 34) C d_G_clear_34 (v := 0) (by decide) ?_
  refine r_putI (pc := 35) (ci := 3) C rfl 3 (by decide) (k_77 C.w) rfl rfl p_I (lay_O hg rfl) d_G_clear_35 ?_
  intro μ10 eμ10; replace h := h μ10 eμ10
  exact r_vret (pc := 38) C Q d_G_clear_38 (by decide) (by decide) h
theorem c_C_queueRootsAndLog {l : Launch} (hl : l.stackTraces = false) {G : Gl} (hg : gf G = true) {post : Mem → Prop} {μ : Mem} (h : wC_queueRootsAndLog post μ) : Ct l G i_C_queueRootsAndLog [.inr (.inl (some 0))] μ (poV post) noX := by
  refine ct_of hl (by decide) (Nat.le_of_ble_eq_true rfl) ?_
  intro K hKl C Q hE
  clear hl hKl
  replace C : Cx K G prog_1_method_37_code "LineCollector" 5 { frames := 3, cells := 0, slots := 0, locals := 60 } := C
  replace Q : Cq K G { frames := 3, cells := 0, slots := 0, locals := 60 } (none) (poV post) noX := Q
  show Rn K G 5 0 [(0, .inr (.inl (some 0)))] [] μ 0 0
  have L_10 : ∀ (l2 : Int32) (k : Int32 → Mem → Prop), (∀ (v3 : Int32) (μ : Mem), k v3 μ → Rn K G 5 40 [(0, .inr (.inl (some 0)))] [] μ 0 0) → ∀ (n : Nat) (l3 : Int32) (μ : Mem), wC_queueRootsAndLog_10 l2 k n l3 μ → Rn K G 5 10 [(0, .inr (.inl (some 0))), (1, .inr (.inl (some 2))), (2, .inl l2), (3, .inl l3)] [] μ 0 0 := by
    intro l2 k hk n
    induction n with
    | zero => intro l3 μ h; exact h.elim
    | succ n ih =>
      intro l3 μ h
      unfold wC_queueRootsAndLog_10 at h
      refine r_iload_n (pc := 10) C d_C_queueRootsAndLog_10 rfl 3 rfl ?_
      refine r_iload_n (pc := 11) C d_C_queueRootsAndLog_11 rfl 2 rfl ?_
      refine r_icmp_ge (tgt := 40) (pc := 12) C d_C_queueRootsAndLog_12 (by decide) ?_ ?_
      · intro hc; replace h := h.1 hc
        refine r_sub [0] rfl ?_
        exact hk l3 μ h
      · intro hc; replace h := h.2 hc
        refine r_aload_n (pc := 15) C d_C_queueRootsAndLog_15 rfl 1 rfl ?_
        refine r_iload_n (pc := 16) C d_C_queueRootsAndLog_16 rfl 3 rfl ?_
        obtain ⟨b1, h⟩ := h
        refine r_aald (pc := 17) C (lay_A hg rfl) b1 d_C_queueRootsAndLog_17 ?_
        intro e2 he2; replace h := h e2 he2
        refine r_astore (pc := 18) (lv' := [(0, .inr (.inl (some 0))), (1, .inr (.inl (some 2))), (2, .inl l2), (3, .inl l3)]) C d_C_queueRootsAndLog_18 (by decide) rfl ?_
        refine r_aload (pc := 20) C d_C_queueRootsAndLog_20 0 rfl ?_
        refine r_ifnull (tgt := 34) (pc := 22) C d_C_queueRootsAndLog_22 (by decide) ?_ ?_
        · intro h0; subst h0; replace h := h.1 rfl
          refine r_iinc (pc := 34) (v := 1) (lv' := [(4, .inr (.inl none)), (0, .inr (.inl (some 0))), (1, .inr (.inl (some 2))), (2, .inl l2)]) C d_C_queueRootsAndLog_34 4 rfl (by decide) (by decide) rfl ?_
          refine r_goto (tgt := 10) (pc := 37) C d_C_queueRootsAndLog_37 (by decide) ?_
          refine r_sub [2, 3, 4, 0] rfl ?_
          exact ih (l3 + 1) μ h
        · intro y3 h0; subst h0; replace h := h.2 y3 rfl
          refine r_aload_n (pc := 25) C d_C_queueRootsAndLog_25 rfl 1 rfl ?_
          refine r_getR (pc := 26) (ci := 0) C rfl 5 (by decide) (k_111 C.w) rfl (lay_O hg rfl) d_C_queueRootsAndLog_26 ?_
          refine r_aload (pc := 29) C d_C_queueRootsAndLog_29 0 rfl ?_
          refine r_cVv (pc := 31) (a' := 0) (b' := 0) (As := [.inr (.inl (some y3))]) (ci := 4) C (c_W_add C.s hg h) o_W_add rfl (lay_O hg rfl) (k_165 C.w) rfl ⟨by decide, by decide, by decide, by decide⟩ rfl rfl (Nat.le_of_ble_eq_true rfl) d_C_queueRootsAndLog_31 rfl ?_
          intro μ4 h
          refine r_iinc (pc := 34) (v := 1) (lv' := [(4, .inr (.inl (some y3))), (0, .inr (.inl (some 0))), (1, .inr (.inl (some 2))), (2, .inl l2)]) C d_C_queueRootsAndLog_34 4 rfl (by decide) (by decide) rfl ?_
          refine r_goto (tgt := 10) (pc := 37) C d_C_queueRootsAndLog_37 (by decide) ?_
          refine r_sub [2, 3, 4, 0] rfl ?_
          exact ih (l3 + 1) μ4 h
  have L_42 : ∀ (k : Int32 → Mem → Prop), (∀ (v1 : Int32) (μ : Mem), k v1 μ → Rn K G 5 94 [(0, .inr (.inl (some 0)))] [] μ 0 0) → ∀ (n : Nat) (l1 : Int32) (μ : Mem), wC_queueRootsAndLog_42 k n l1 μ → Rn K G 5 42 [(0, .inr (.inl (some 0))), (1, .inl l1)] [] μ 0 0 := by
    intro k hk n
    induction n with
    | zero => intro l1 μ h; exact h.elim
    | succ n ih =>
      intro l1 μ h
      unfold wC_queueRootsAndLog_42 at h
      refine r_iload_n (pc := 42) C d_C_queueRootsAndLog_42 rfl 1 rfl ?_
      refine r_aload_n (pc := 43) C d_C_queueRootsAndLog_43 rfl 0 rfl ?_
      refine r_getR (pc := 44) (ci := 0) C rfl 4 (by decide) (k_110 C.w) rfl (lay_O hg rfl) d_C_queueRootsAndLog_44 ?_
      refine r_getI (pc := 47) (ci := 3) C rfl 3 (by decide) (k_78 C.w) rfl (lay_O hg rfl) d_C_queueRootsAndLog_47 ?_
      refine r_icmp_ge (tgt := 94) (pc := 50) C d_C_queueRootsAndLog_50 (by decide) ?_ ?_
      · intro hc; replace h := h.1 hc
        refine r_sub [0] rfl ?_
        exact hk l1 μ h
      · intro hc; replace h := h.2 hc
        refine r_aload_n (pc := 53) C d_C_queueRootsAndLog_53 rfl 0 rfl ?_
        refine r_getR (pc := 54) (ci := 0) C rfl 4 (by decide) (k_110 C.w) rfl (lay_O hg rfl) d_C_queueRootsAndLog_54 ?_
        refine r_iload_n (pc := 57) C d_C_queueRootsAndLog_57 rfl 1 rfl ?_
        refine r_cVq (pc := 58) (a' := 0) (b' := 0) (As := [.inl l1]) (ci := 3) C (c_G_heldBefore C.s hg h) o_G_heldBefore rfl (lay_O hg rfl) (k_281 C.w) rfl ⟨by decide, by decide, by decide, by decide⟩ rfl rfl (Nat.le_of_ble_eq_true rfl) d_C_queueRootsAndLog_58 rfl ?_
        intro r8 μ7 h
        refine r_astore_n (pc := 61) (lv' := [(0, .inr (.inl (some 0))), (1, .inl l1)]) C d_C_queueRootsAndLog_61 rfl (by decide) rfl ?_
        refine r_aload_n (pc := 62) C d_C_queueRootsAndLog_62 rfl 0 rfl ?_
        refine r_ifnonnull (tgt := 69) (pc := 63) C d_C_queueRootsAndLog_63 (by decide) ?_ ?_
        · intro y9 h0; subst h0; replace h := h.2 y9 rfl
          refine r_aload_n (pc := 69) C d_C_queueRootsAndLog_69 rfl 1 rfl ?_
          refine r_getR (pc := 70) (ci := 0) C rfl 5 (by decide) (k_111 C.w) rfl (lay_O hg rfl) d_C_queueRootsAndLog_70 ?_
          refine r_aload_n (pc := 73) C d_C_queueRootsAndLog_73 rfl 0 rfl ?_
          refine r_cVv (pc := 74) (a' := 0) (b' := 0) (As := [.inr (.inl (some y9))]) (ci := 4) C (c_W_add C.s hg h) o_W_add rfl (lay_O hg rfl) (k_165 C.w) rfl ⟨by decide, by decide, by decide, by decide⟩ rfl rfl (Nat.le_of_ble_eq_true rfl) d_C_queueRootsAndLog_74 rfl ?_
          intro μ10 h
          refine r_aload_n (pc := 77) C d_C_queueRootsAndLog_77 rfl 1 rfl ?_
          refine r_getI (pc := 78) (ci := 0) C rfl 7 (by decide) (k_113 C.w) rfl (lay_O hg rfl) d_C_queueRootsAndLog_78 ?_
          refine r_if_eq (tgt := 88) (pc := 81) C d_C_queueRootsAndLog_81 (by decide) ?_ ?_
          · intro hc; replace h := h.1 hc
            refine r_iinc (pc := 88) (v := 1) (lv' := [(2, .inr (.inl (some y9))), (0, .inr (.inl (some 0)))]) C d_C_queueRootsAndLog_88 2 rfl (by decide) (by decide) rfl ?_
            refine r_goto (tgt := 42) (pc := 91) C d_C_queueRootsAndLog_91 (by decide) ?_
            refine r_sub [2, 0] rfl ?_
            exact ih (l1 + 1) μ10 h
          · intro hc; replace h := h.2 hc
            refine r_aload_n (pc := 84) C d_C_queueRootsAndLog_84 rfl 0 rfl ?_
            obtain ⟨o11, h⟩ := h
            refine r_cVv (pc := 85) (a' := 0) (b' := 0) (As := []) (ci := 5) C (c_I_turnGreyIfWhite C.s hg h) o_I_turnGreyIfWhite rfl (ok_O o11) (k_169 C.w) rfl ⟨by decide, by decide, by decide, by decide⟩ rfl rfl (Nat.le_of_ble_eq_true rfl) d_C_queueRootsAndLog_85 rfl ?_
            intro μ12 h
            refine r_iinc (pc := 88) (v := 1) (lv' := [(2, .inr (.inl (some y9))), (0, .inr (.inl (some 0)))]) C d_C_queueRootsAndLog_88 2 rfl (by decide) (by decide) rfl ?_
            refine r_goto (tgt := 42) (pc := 91) C d_C_queueRootsAndLog_91 (by decide) ?_
            refine r_sub [2, 0] rfl ?_
            exact ih (l1 + 1) μ12 h
        · intro h0; subst h0; replace h := h.1 rfl
          refine r_goto (tgt := 88) (pc := 66) C d_C_queueRootsAndLog_66 (by decide) ?_
          refine r_iinc (pc := 88) (v := 1) (lv' := [(2, .inr (.inl none)), (0, .inr (.inl (some 0)))]) C d_C_queueRootsAndLog_88 2 rfl (by decide) (by decide) rfl ?_
          refine r_goto (tgt := 42) (pc := 91) C d_C_queueRootsAndLog_91 (by decide) ?_
          refine r_sub [2, 0] rfl ?_
          exact ih (l1 + 1) μ7 h
  unfold wC_queueRootsAndLog at h
  refine r_aload_n (pc := 0) C d_C_queueRootsAndLog_0 rfl 0 rfl ?_
  refine r_getR (pc := 1) (ci := 0) C rfl 1 (by decide) (k_107 C.w) rfl (lay_O hg rfl) d_C_queueRootsAndLog_1 ?_
  refine r_astore_n (pc := 4) (lv' := [(0, .inr (.inl (some 0)))]) C d_C_queueRootsAndLog_4 rfl (by decide) rfl ?_
  refine r_aload_n (pc := 5) C d_C_queueRootsAndLog_5 rfl 0 rfl ?_
  refine r_alenQ (pc := 6) (v := 6) C (lay_A hg rfl) (by decide) d_C_queueRootsAndLog_6 ?_
  refine r_istore_n (pc := 7) (lv' := [(1, .inr (.inl (some 2))), (0, .inr (.inl (some 0)))]) C d_C_queueRootsAndLog_7 rfl (by decide) rfl ?_
  refine r_iconst (pc := 8) C d_C_queueRootsAndLog_8 (v := 0) (by decide) ?_
  refine r_istore_n (pc := 9) (lv' := [(2, .inl 6), (1, .inr (.inl (some 2))), (0, .inr (.inl (some 0)))]) C d_C_queueRootsAndLog_9 rfl (by decide) rfl ?_
  obtain ⟨n17, h⟩ := h
  refine r_sub [3, 2, 1, 0] rfl ?_
  refine L_10 6 _ ?_ n17 0 μ h
  intro v6 μ5 h
  refine r_iconst (pc := 40) C d_C_queueRootsAndLog_40 (v := 0) (by decide) ?_
  refine r_istore_n (pc := 41) (lv' := [(0, .inr (.inl (some 0)))]) C d_C_queueRootsAndLog_41 rfl (by decide) rfl ?_
  obtain ⟨n16, h⟩ := h
  refine r_sub [1, 0] rfl ?_
  refine L_42 _ ?_ n16 0 μ5 h
  intro v14 μ13 h
  refine r_aload_n (pc := 94) C d_C_queueRootsAndLog_94 rfl 0 rfl ?_
  refine r_getR (pc := 95) (ci := 0) C rfl 4 (by decide) (k_110 C.w) rfl (lay_O hg rfl) d_C_queueRootsAndLog_95 ?_
  refine r_cVv (pc := 98) (a' := 0) (b' := 0) (As := []) (ci := 3) C (c_G_clear C.s hg h) o_G_clear rfl (lay_O hg rfl) (k_285 C.w) rfl ⟨by decide, by decide, by decide, by decide⟩ rfl rfl (Nat.le_of_ble_eq_true rfl) d_C_queueRootsAndLog_98 rfl ?_
  intro μ15 h
  exact r_vret (pc := 101) C Q d_C_queueRootsAndLog_101 (by decide) (by decide) h
theorem c_C_rememberRoots {l : Launch} (hl : l.stackTraces = false) {G : Gl} (hg : gf G = true) {post : Mem → Prop} {μ : Mem} (h : wC_rememberRoots post μ) : Ct l G i_C_rememberRoots [.inr (.inl (some 0))] μ (poV post) noX := by
  refine ct_of hl (by decide) (Nat.le_of_ble_eq_true rfl) ?_
  intro K hKl C Q hE
  clear hl hKl
  replace C : Cx K G prog_1_method_31_code "LineCollector" 2 { frames := 0, cells := 0, slots := 0, locals := 0 } := C
  replace Q : Cq K G { frames := 0, cells := 0, slots := 0, locals := 0 } (none) (poV post) noX := Q
  show Rn K G 2 0 [(0, .inr (.inl (some 0)))] [] μ 0 0
  have L_2 : ∀ (k : Int32 → Mem → Prop), (∀ (v1 : Int32) (μ : Mem), k v1 μ → Rn K G 2 26 [] [] μ 0 0) → ∀ (n : Nat) (l1 : Int32) (μ : Mem), wC_rememberRoots_2 k n l1 μ → Rn K G 2 2 [(0, .inr (.inl (some 0))), (1, .inl l1)] [] μ 0 0 := by
    intro k hk n
    induction n with
    | zero => intro l1 μ h; exact h.elim
    | succ n ih =>
      intro l1 μ h
      unfold wC_rememberRoots_2 at h
      refine r_iload_n (pc := 2) C d_C_rememberRoots_2 rfl 1 rfl ?_
      refine r_bipush (pc := 3) C d_C_rememberRoots_3 (v := 6) (by decide) ?_
      refine r_icmp_ge (tgt := 26) (pc := 5) C d_C_rememberRoots_5 (by decide) ?_ ?_
      · intro hc; replace h := h.1 hc
        refine r_sub [] rfl ?_
        exact hk l1 μ h
      · intro hc; replace h := h.2 hc
        refine r_aload_n (pc := 8) C d_C_rememberRoots_8 rfl 0 rfl ?_
        refine r_getR (pc := 9) (ci := 0) C rfl 1 (by decide) (k_107 C.w) rfl (lay_O hg rfl) d_C_rememberRoots_9 ?_
        refine r_iload_n (pc := 12) C d_C_rememberRoots_12 rfl 1 rfl ?_
        refine r_aload_n (pc := 13) C d_C_rememberRoots_13 rfl 0 rfl ?_
        refine r_getR (pc := 14) (ci := 0) C rfl 0 (by decide) (k_106 C.w) rfl (lay_O hg rfl) d_C_rememberRoots_14 ?_
        refine r_iload_n (pc := 17) C d_C_rememberRoots_17 rfl 1 rfl ?_
        obtain ⟨b1, h⟩ := h
        refine r_aald (pc := 18) C (lay_A hg rfl) b1 d_C_rememberRoots_18 ?_
        intro e2 he2; replace h := h e2 he2
        obtain ⟨o4, h⟩ := h
        refine r_aast (pc := 19) C (lay_A hg rfl) b1 d_C_rememberRoots_19 o4 ?_
        intro μ3 eμ3; replace h := h μ3 eμ3
        refine r_iinc (pc := 20) (v := 1) (lv' := [(0, .inr (.inl (some 0)))]) C d_C_rememberRoots_20 1 rfl (by decide) (by decide) rfl ?_
        refine r_goto (tgt := 2) (pc := 23) C d_C_rememberRoots_23 (by decide) ?_
        refine r_sub [1, 0] rfl ?_
        exact ih (l1 + 1) μ3 h
  unfold wC_rememberRoots at h
  refine r_iconst (pc := 0) C d_C_rememberRoots_0 (v := 0) (by decide) ?_
  refine r_istore_n (pc := 1) (lv' := [(0, .inr (.inl (some 0)))]) C d_C_rememberRoots_1 rfl (by decide) rfl ?_
  obtain ⟨n7, h⟩ := h
  refine r_sub [1, 0] rfl ?_
  refine L_2 _ ?_ n7 0 μ h
  intro v6 μ5 h
  exact r_vret (pc := 26) C Q d_C_rememberRoots_26 (by decide) (by decide) h
theorem c_C_beginTrace {l : Launch} (hl : l.stackTraces = false) {G : Gl} (hg : gf G = true) {post : Mem → Prop} {μ : Mem} (h : wC_beginTrace post μ) : Ct l G i_C_beginTrace [.inr (.inl (some 0))] μ (poV post) noX := by
  refine ct_of hl (by decide) (Nat.le_of_ble_eq_true rfl) ?_
  intro K hKl C Q hE
  clear hl hKl
  replace C : Cx K G prog_1_method_32_code "LineCollector" 5 { frames := 3, cells := 0, slots := 0, locals := 60 } := C
  replace Q : Cq K G { frames := 3, cells := 0, slots := 0, locals := 60 } (none) (poV post) noX := Q
  show Rn K G 5 0 [(0, .inr (.inl (some 0)))] [] μ 0 0
  have L_15 : ∀ (l2 : Int32) (k : Int32 → Mem → Prop), (∀ (v3 : Int32) (μ : Mem), k v3 μ → Rn K G 5 41 [] [] μ 0 0) → ∀ (n : Nat) (l3 : Int32) (μ : Mem), wC_beginTrace_15 l2 k n l3 μ → Rn K G 5 15 [(1, .inr (.inl (some 1))), (2, .inl l2), (3, .inl l3)] [] μ 0 0 := by
    intro l2 k hk n
    induction n with
    | zero => intro l3 μ h; exact h.elim
    | succ n ih =>
      intro l3 μ h
      unfold wC_beginTrace_15 at h
      refine r_iload_n (pc := 15) C d_C_beginTrace_15 rfl 2 rfl ?_
      refine r_iload_n (pc := 16) C d_C_beginTrace_16 rfl 1 rfl ?_
      refine r_icmp_ge (tgt := 41) (pc := 17) C d_C_beginTrace_17 (by decide) ?_ ?_
      · intro hc; replace h := h.1 hc
        refine r_sub [] rfl ?_
        exact hk l3 μ h
      · intro hc; replace h := h.2 hc
        refine r_aload_n (pc := 20) C d_C_beginTrace_20 rfl 0 rfl ?_
        refine r_iload_n (pc := 21) C d_C_beginTrace_21 rfl 2 rfl ?_
        obtain ⟨b2, h⟩ := h
        refine r_aald (pc := 22) C (lay_A hg rfl) b2 d_C_beginTrace_22 ?_
        intro e3 he3; replace h := h e3 he3
        refine r_astore (pc := 23) (lv' := [(1, .inr (.inl (some 1))), (2, .inl l2), (3, .inl l3)]) C d_C_beginTrace_23 (by decide) rfl ?_
        refine r_aload (pc := 25) C d_C_beginTrace_25 0 rfl ?_
        refine r_ifnull (tgt := 35) (pc := 27) C d_C_beginTrace_27 (by decide) ?_ ?_
        · intro h0; subst h0; replace h := h.1 rfl
          refine r_iinc (pc := 35) (v := 1) (lv' := [(4, .inr (.inl none)), (1, .inr (.inl (some 1))), (2, .inl l2)]) C d_C_beginTrace_35 3 rfl (by decide) (by decide) rfl ?_
          refine r_goto (tgt := 15) (pc := 38) C d_C_beginTrace_38 (by decide) ?_
          refine r_sub [2, 3, 0] rfl ?_
          exact ih (l3 + 1) μ h
        · intro y4 h0; subst h0; replace h := h.2 y4 rfl
          refine r_aload (pc := 30) C d_C_beginTrace_30 0 rfl ?_
          obtain ⟨o5, h⟩ := h
          refine r_cVv (pc := 32) (a' := 0) (b' := 0) (As := []) (ci := 5) C (c_I_turnGreyIfWhite C.s hg h) o_I_turnGreyIfWhite rfl (ok_O o5) (k_169 C.w) rfl ⟨by decide, by decide, by decide, by decide⟩ rfl rfl (Nat.le_of_ble_eq_true rfl) d_C_beginTrace_32 rfl ?_
          intro μ6 h
          refine r_iinc (pc := 35) (v := 1) (lv' := [(4, .inr (.inl (some y4))), (1, .inr (.inl (some 1))), (2, .inl l2)]) C d_C_beginTrace_35 3 rfl (by decide) (by decide) rfl ?_
          refine r_goto (tgt := 15) (pc := 38) C d_C_beginTrace_38 (by decide) ?_
          refine r_sub [2, 3, 0] rfl ?_
          exact ih (l3 + 1) μ6 h
  unfold wC_beginTrace at h
  refine r_aload_n (pc := 0) C d_C_beginTrace_0 rfl 0 rfl ?_
  refine r_iconst (pc := 1) C d_C_beginTrace_1 (v := 1) (by decide) ?_
  refine r_putZ (pc := 2) (ci := 0) C rfl 7 (by decide) (k_113 C.w) rfl rfl p_Z (Or.inr rfl) (lay_O hg rfl) d_C_beginTrace_2 ?_
  intro μ1 eμ1; replace h := h μ1 eμ1
  refine r_aload_n (pc := 5) C d_C_beginTrace_5 rfl 0 rfl ?_
  refine r_getR (pc := 6) (ci := 0) C rfl 0 (by decide) (k_106 C.w) rfl (lay_O hg rfl) d_C_beginTrace_6 ?_
  refine r_astore_n (pc := 9) (lv' := [(0, .inr (.inl (some 0)))]) C d_C_beginTrace_9 rfl (by decide) rfl ?_
  refine r_aload_n (pc := 10) C d_C_beginTrace_10 rfl 0 rfl ?_
  refine r_alenQ (pc := 11) (v := 6) C (lay_A hg rfl) (by decide) d_C_beginTrace_11 ?_
  refine r_istore_n (pc := 12) (lv' := [(1, .inr (.inl (some 1))), (0, .inr (.inl (some 0)))]) C d_C_beginTrace_12 rfl (by decide) rfl ?_
  refine r_iconst (pc := 13) C d_C_beginTrace_13 (v := 0) (by decide) ?_
  refine r_istore_n (pc := 14) (lv' := [(2, .inl 6), (1, .inr (.inl (some 1))), (0, .inr (.inl (some 0)))]) C d_C_beginTrace_14 rfl (by decide) rfl ?_
  obtain ⟨n9, h⟩ := h
  refine r_sub [2, 1, 0] rfl ?_
  refine L_15 6 _ ?_ n9 0 μ1 h
  intro v8 μ7 h
  exact r_vret (pc := 41) C Q d_C_beginTrace_41 (by decide) (by decide) h
theorem c_C_countGrey {l : Launch} (hl : l.stackTraces = false) {G : Gl} (hg : gf G = true) {post : Int32 → Mem → Prop} {μ : Mem} (h : wC_countGrey post μ) : Ct l G i_C_countGrey [.inr (.inl (some 0))] μ (poI post) noX := by
  refine ct_of hl (by decide) (Nat.le_of_ble_eq_true rfl) ?_
  intro K hKl C Q hE
  clear hl hKl
  replace C : Cx K G prog_1_method_21_code "LineCollector" 6 { frames := 0, cells := 0, slots := 0, locals := 0 } := C
  replace Q : Cq K G { frames := 0, cells := 0, slots := 0, locals := 0 } (some .int) (poI post) noX := Q
  show Rn K G 6 0 [(0, .inr (.inl (some 0)))] [] μ 0 0
  have L_13 : ∀ (l3 : Int32) (k : Int32 → Int32 → Mem → Prop), (∀ (v1 : Int32) (v4 : Int32) (μ : Mem), k v1 v4 μ → Rn K G 6 48 [(1, .inl v1)] [] μ 0 0) → ∀ (n : Nat) (l1 : Int32) (l4 : Int32) (μ : Mem), wC_countGrey_13 l3 k n l1 l4 μ → Rn K G 6 13 [(1, .inl l1), (2, .inr (.inl (some 3))), (3, .inl l3), (4, .inl l4)] [] μ 0 0 := by
    intro l3 k hk n
    induction n with
    | zero => intro l1 l4 μ h; exact h.elim
    | succ n ih =>
      intro l1 l4 μ h
      unfold wC_countGrey_13 at h
      refine r_iload (pc := 13) C d_C_countGrey_13 3 rfl ?_
      refine r_iload_n (pc := 15) C d_C_countGrey_15 rfl 2 rfl ?_
      refine r_icmp_ge (tgt := 48) (pc := 16) C d_C_countGrey_16 (by decide) ?_ ?_
      · intro hc; replace h := h.1 hc
        refine r_sub [0] rfl ?_
        exact hk l1 l4 μ h
      · intro hc; replace h := h.2 hc
        refine r_aload_n (pc := 19) C d_C_countGrey_19 rfl 1 rfl ?_
        refine r_iload (pc := 20) C d_C_countGrey_20 3 rfl ?_
        obtain ⟨b1, h⟩ := h
        refine r_aald (pc := 22) C (lay_A hg rfl) b1 d_C_countGrey_22 ?_
        intro e2 he2; replace h := h e2 he2
        refine r_astore (pc := 23) (lv' := [(1, .inl l1), (2, .inr (.inl (some 3))), (3, .inl l3), (4, .inl l4)]) C d_C_countGrey_23 (by decide) rfl ?_
        refine r_aload (pc := 25) C d_C_countGrey_25 0 rfl ?_
        refine r_ifnull (tgt := 42) (pc := 27) C d_C_countGrey_27 (by decide) ?_ ?_
        · intro h0; subst h0; replace h := h.1 rfl
          refine r_iinc (pc := 42) (v := 1) (lv' := [(5, .inr (.inl none)), (1, .inl l1), (2, .inr (.inl (some 3))), (3, .inl l3)]) C d_C_countGrey_42 4 rfl (by decide) (by decide) rfl ?_
          refine r_goto (tgt := 13) (pc := 45) C d_C_countGrey_45 (by decide) ?_
          refine r_sub [2, 3, 4, 0] rfl ?_
          exact ih l1 (l4 + 1) μ h
        · intro y3 h0; subst h0; replace h := h.2 y3 rfl
          refine r_aload (pc := 30) C d_C_countGrey_30 0 rfl ?_
          obtain ⟨o4, h⟩ := h
          refine r_getI (pc := 32) (ci := 5) C rfl 6 (by decide) (k_474 C.w) rfl (ok_O o4) d_C_countGrey_32 ?_
          refine r_iconst (pc := 35) C d_C_countGrey_35 (v := 1) (by decide) ?_
          refine r_icmp_ne (tgt := 42) (pc := 36) C d_C_countGrey_36 (by decide) ?_ ?_
          · intro hc; replace h := h.2 hc
            refine r_iinc (pc := 42) (v := 1) (lv' := [(5, .inr (.inl (some y3))), (1, .inl l1), (2, .inr (.inl (some 3))), (3, .inl l3)]) C d_C_countGrey_42 4 rfl (by decide) (by decide) rfl ?_
            refine r_goto (tgt := 13) (pc := 45) C d_C_countGrey_45 (by decide) ?_
            refine r_sub [2, 3, 4, 0] rfl ?_
            exact ih l1 (l4 + 1) μ h
          · intro hc; replace h := h.1 hc
            refine r_iinc (pc := 39) (v := 1) (lv' := [(5, .inr (.inl (some y3))), (2, .inr (.inl (some 3))), (3, .inl l3), (4, .inl l4)]) C d_C_countGrey_39 1 rfl (by decide) (by decide) rfl ?_
            refine r_iinc (pc := 42) (v := 1) (lv' := [(1, .inl (l1 + 1)), (5, .inr (.inl (some y3))), (2, .inr (.inl (some 3))), (3, .inl l3)]) C d_C_countGrey_42 4 rfl (by decide) (by decide) rfl ?_
            refine r_goto (tgt := 13) (pc := 45) C d_C_countGrey_45 (by decide) ?_
            refine r_sub [1, 3, 4, 0] rfl ?_
            exact ih (l1 + 1) (l4 + 1) μ h
  unfold wC_countGrey at h
  refine r_iconst (pc := 0) C d_C_countGrey_0 (v := 0) (by decide) ?_
  refine r_istore_n (pc := 1) (lv' := [(0, .inr (.inl (some 0)))]) C d_C_countGrey_1 rfl (by decide) rfl ?_
  refine r_aload_n (pc := 2) C d_C_countGrey_2 rfl 1 rfl ?_
  refine r_getR (pc := 3) (ci := 0) C rfl 2 (by decide) (k_108 C.w) rfl (lay_O hg rfl) d_C_countGrey_3 ?_
  refine r_astore_n (pc := 6) (lv' := [(1, .inl 0), (0, .inr (.inl (some 0)))]) C d_C_countGrey_6 rfl (by decide) rfl ?_
  refine r_aload_n (pc := 7) C d_C_countGrey_7 rfl 0 rfl ?_
  refine r_alenQ (pc := 8) (v := 128) C (lay_A hg rfl) (by decide) d_C_countGrey_8 ?_
  refine r_istore_n (pc := 9) (lv' := [(2, .inr (.inl (some 3))), (1, .inl 0), (0, .inr (.inl (some 0)))]) C d_C_countGrey_9 rfl (by decide) rfl ?_
  refine r_iconst (pc := 10) C d_C_countGrey_10 (v := 0) (by decide) ?_
  refine r_istore (pc := 11) (lv' := [(3, .inl 128), (2, .inr (.inl (some 3))), (1, .inl 0), (0, .inr (.inl (some 0)))]) C d_C_countGrey_11 (by decide) rfl ?_
  obtain ⟨n8, h⟩ := h
  refine r_sub [3, 2, 1, 0] rfl ?_
  refine L_13 128 _ ?_ n8 0 0 μ h
  intro v6 v7 μ5 h
  refine r_iload_n (pc := 48) C d_C_countGrey_48 rfl 0 rfl ?_
  exact r_iret (pc := 49) C Q d_C_countGrey_49 (by decide) (by decide) h
theorem c_C_loseWhite {l : Launch} (hl : l.stackTraces = false) {G : Gl} (hg : gf G = true) {post : Mem → Prop} {μ : Mem} (h : wC_loseWhite post μ) : Ct l G i_C_loseWhite [.inr (.inl (some 0))] μ (poV post) noX := by
  refine ct_of hl (by decide) (Nat.le_of_ble_eq_true rfl) ?_
  intro K hKl C Q hE
  clear hl hKl
  replace C : Cx K G prog_1_method_38_code "LineCollector" 9 { frames := 2, cells := 0, slots := 0, locals := 44 } := C
  replace Q : Cq K G { frames := 2, cells := 0, slots := 0, locals := 44 } (none) (poV post) noX := Q
  show Rn K G 9 0 [(0, .inr (.inl (some 0)))] [] μ 0 0
  have L_67 : ∀ (l5 : Nat) (l6 : Int32) (l2 : Int32) (l3 : Int32) (k : Int32 → Mem → Prop), (∀ (v7 : Int32) (μ : Mem), k v7 μ → Rn K G 9 109 [(0, .inr (.inl (some 0))), (1, .inr (.inl (some 3))), (2, .inl l2), (3, .inl l3)] [] μ 0 0) → ∀ (n : Nat) (l7 : Int32) (μ : Mem), wC_loseWhite_67 l5 l6 k n l7 μ → Rn K G 9 67 [(0, .inr (.inl (some 0))), (1, .inr (.inl (some 3))), (2, .inl l2), (3, .inl l3), (5, .inr (.inl (some l5))), (6, .inl l6), (7, .inl l7)] [] μ 0 0 := by
    intro l5 l6 l2 l3 k hk n
    induction n with
    | zero => intro l7 μ h; exact h.elim
    | succ n ih =>
      intro l7 μ h
      unfold wC_loseWhite_67 at h
      refine r_iload (pc := 67) C d_C_loseWhite_67 6 rfl ?_
      refine r_iload (pc := 69) C d_C_loseWhite_69 5 rfl ?_
      refine r_icmp_ge (tgt := 109) (pc := 71) C d_C_loseWhite_71 (by decide) ?_ ?_
      · intro hc; replace h := h.1 hc
        refine r_sub [0, 1, 2, 3] rfl ?_
        exact hk l7 μ h
      · intro hc; replace h := h.2 hc
        refine r_aload (pc := 74) C d_C_loseWhite_74 4 rfl ?_
        refine r_iload (pc := 76) C d_C_loseWhite_76 6 rfl ?_
        obtain ⟨o11, h⟩ := h
        obtain ⟨b12, h⟩ := h
        refine r_aald (pc := 78) C (ok_A o11) b12 d_C_loseWhite_78 ?_
        intro e13 he13; replace h := h e13 he13
        refine r_astore (pc := 79) (lv' := [(0, .inr (.inl (some 0))), (1, .inr (.inl (some 3))), (2, .inl l2), (3, .inl l3), (5, .inr (.inl (some l5))), (6, .inl l6), (7, .inl l7)]) C d_C_loseWhite_79 (by decide) rfl ?_
        refine r_aload (pc := 81) C d_C_loseWhite_81 0 rfl ?_
        refine r_ifnull (tgt := 103) (pc := 83) C d_C_loseWhite_83 (by decide) ?_ ?_
        · intro h0; subst h0; replace h := h.1 rfl
          refine r_iinc (pc := 103) (v := 1) (lv' := [(8, .inr (.inl none)), (0, .inr (.inl (some 0))), (1, .inr (.inl (some 3))), (2, .inl l2), (3, .inl l3), (5, .inr (.inl (some l5))), (6, .inl l6)]) C d_C_loseWhite_103 7 rfl (by decide) (by decide) rfl ?_
          refine r_goto (tgt := 67) (pc := 106) C d_C_loseWhite_106 (by decide) ?_
          refine r_sub [2, 3, 4, 5, 6, 7, 0] rfl ?_
          exact ih (l7 + 1) μ h
        · intro y14 h0; subst h0; replace h := h.2 y14 rfl
          refine r_aload (pc := 86) C d_C_loseWhite_86 0 rfl ?_
          obtain ⟨o15, h⟩ := h
          refine r_cVi (pc := 88) (a' := 0) (b' := 0) (As := []) (ci := 5) C (c_I_isWhite C.s hg h) o_I_isWhite rfl (ok_O o15) (k_297 C.w) rfl ⟨by decide, by decide, by decide, by decide⟩ rfl rfl (Nat.le_of_ble_eq_true rfl) d_C_loseWhite_88 rfl ?_
          intro r17 μ16 h
          refine r_if_ne (tgt := 103) (pc := 91) C d_C_loseWhite_91 (by decide) ?_ ?_
          · intro hc; replace h := h.2 hc
            refine r_iinc (pc := 103) (v := 1) (lv' := [(8, .inr (.inl (some y14))), (0, .inr (.inl (some 0))), (1, .inr (.inl (some 3))), (2, .inl l2), (3, .inl l3), (5, .inr (.inl (some l5))), (6, .inl l6)]) C d_C_loseWhite_103 7 rfl (by decide) (by decide) rfl ?_
            refine r_goto (tgt := 67) (pc := 106) C d_C_loseWhite_106 (by decide) ?_
            refine r_sub [2, 3, 4, 5, 6, 7, 0] rfl ?_
            exact ih (l7 + 1) μ16 h
          · intro hc; replace h := h.1 hc
            refine r_aload_n (pc := 94) C d_C_loseWhite_94 rfl 1 rfl ?_
            refine r_getR (pc := 95) (ci := 0) C rfl 5 (by decide) (k_111 C.w) rfl (lay_O hg rfl) d_C_loseWhite_95 ?_
            refine r_aload (pc := 98) C d_C_loseWhite_98 0 rfl ?_
            refine r_cVv (pc := 100) (a' := 0) (b' := 0) (As := [.inr (.inl (some y14))]) (ci := 4) C (c_W_add C.s hg h) o_W_add rfl (lay_O hg rfl) (k_165 C.w) rfl ⟨by decide, by decide, by decide, by decide⟩ rfl rfl (Nat.le_of_ble_eq_true rfl) d_C_loseWhite_100 rfl ?_
            intro μ18 h
            refine r_iinc (pc := 103) (v := 1) (lv' := [(8, .inr (.inl (some y14))), (0, .inr (.inl (some 0))), (1, .inr (.inl (some 3))), (2, .inl l2), (3, .inl l3), (5, .inr (.inl (some l5))), (6, .inl l6)]) C d_C_loseWhite_103 7 rfl (by decide) (by decide) rfl ?_
            refine r_goto (tgt := 67) (pc := 106) C d_C_loseWhite_106 (by decide) ?_
            refine r_sub [2, 3, 4, 5, 6, 7, 0] rfl ?_
            exact ih (l7 + 1) μ18 h
  have L_10 : ∀ (l2 : Int32) (k : Int32 → Mem → Prop), (∀ (v3 : Int32) (μ : Mem), k v3 μ → Rn K G 9 115 [] [] μ 0 0) → ∀ (n : Nat) (l3 : Int32) (μ : Mem), wC_loseWhite_10 l2 k n l3 μ → Rn K G 9 10 [(0, .inr (.inl (some 0))), (1, .inr (.inl (some 3))), (2, .inl l2), (3, .inl l3)] [] μ 0 0 := by
    intro l2 k hk n
    induction n with
    | zero => intro l3 μ h; exact h.elim
    | succ n ih =>
      intro l3 μ h
      unfold wC_loseWhite_10 at h
      refine r_iload_n (pc := 10) C d_C_loseWhite_10 rfl 3 rfl ?_
      refine r_iload_n (pc := 11) C d_C_loseWhite_11 rfl 2 rfl ?_
      refine r_icmp_ge (tgt := 115) (pc := 12) C d_C_loseWhite_12 (by decide) ?_ ?_
      · intro hc; replace h := h.1 hc
        refine r_sub [] rfl ?_
        exact hk l3 μ h
      · intro hc; replace h := h.2 hc
        refine r_aload_n (pc := 15) C d_C_loseWhite_15 rfl 1 rfl ?_
        refine r_iload_n (pc := 16) C d_C_loseWhite_16 rfl 3 rfl ?_
        obtain ⟨b1, h⟩ := h
        refine r_aald (pc := 17) C (lay_A hg rfl) b1 d_C_loseWhite_17 ?_
        intro e2 he2; replace h := h e2 he2
        refine r_astore (pc := 18) (lv' := [(0, .inr (.inl (some 0))), (1, .inr (.inl (some 3))), (2, .inl l2), (3, .inl l3)]) C d_C_loseWhite_18 (by decide) rfl ?_
        refine r_aload (pc := 20) C d_C_loseWhite_20 0 rfl ?_
        refine r_ifnull (tgt := 109) (pc := 22) C d_C_loseWhite_22 (by decide) ?_ ?_
        · intro h0; subst h0; replace h := h.1 rfl
          refine r_iinc (pc := 109) (v := 1) (lv' := [(4, .inr (.inl none)), (0, .inr (.inl (some 0))), (1, .inr (.inl (some 3))), (2, .inl l2)]) C d_C_loseWhite_109 4 rfl (by decide) (by decide) rfl ?_
          refine r_goto (tgt := 10) (pc := 112) C d_C_loseWhite_112 (by decide) ?_
          refine r_sub [2, 3, 4, 0] rfl ?_
          exact ih (l3 + 1) μ h
        · intro y3 h0; subst h0; replace h := h.2 y3 rfl
          refine r_aload (pc := 25) C d_C_loseWhite_25 0 rfl ?_
          obtain ⟨o4, h⟩ := h
          refine r_cVi (pc := 27) (a' := 0) (b' := 0) (As := []) (ci := 5) C (c_I_isWhite C.s hg h) o_I_isWhite rfl (ok_O o4) (k_297 C.w) rfl ⟨by decide, by decide, by decide, by decide⟩ rfl rfl (Nat.le_of_ble_eq_true rfl) d_C_loseWhite_27 rfl ?_
          intro r6 μ5 h
          refine r_if_ne (tgt := 36) (pc := 30) C d_C_loseWhite_30 (by decide) ?_ ?_
          · intro hc; replace h := h.2 hc
            refine r_aload_n (pc := 36) C d_C_loseWhite_36 rfl 1 rfl ?_
            refine r_aload (pc := 37) C d_C_loseWhite_37 0 rfl ?_
            refine r_cVv (pc := 39) (a' := 0) (b' := 0) (As := [.inr (.inl (some y3))]) (ci := 0) C (c_C_remove C.s hg h) o_C_remove rfl (lay_O hg rfl) (k_157 C.w) rfl ⟨by decide, by decide, by decide, by decide⟩ rfl rfl (Nat.le_of_ble_eq_true rfl) d_C_loseWhite_39 rfl ?_
            intro μ7 h
            refine r_aload_n (pc := 42) C d_C_loseWhite_42 rfl 1 rfl ?_
            refine r_dupR (pc := 43) C d_C_loseWhite_43 ?_
            refine r_getI (pc := 44) (ci := 0) C rfl 10 (by decide) (k_116 C.w) rfl (lay_O hg rfl) d_C_loseWhite_44 ?_
            refine r_iconst (pc := 47) C d_C_loseWhite_47 (v := 1) (by decide) ?_
            refine r_iadd (pc := 48) C d_C_loseWhite_48 ?_
            refine r_putI (pc := 49) (ci := 0) C rfl 10 (by decide) (k_116 C.w) rfl rfl p_I (lay_O hg rfl) d_C_loseWhite_49 ?_
            intro μ8 eμ8; replace h := h μ8 eμ8
            refine r_aload (pc := 52) C d_C_loseWhite_52 0 rfl ?_
            obtain ⟨o9, h⟩ := h
            refine r_getR (pc := 54) (ci := 5) C rfl 2 (by decide) (k_466 C.w) rfl (ok_O o9) d_C_loseWhite_54 ?_
            refine r_astore (pc := 57) (lv' := [(4, .inr (.inl (some y3))), (0, .inr (.inl (some 0))), (1, .inr (.inl (some 3))), (2, .inl l2), (3, .inl l3)]) C d_C_loseWhite_57 (by decide) rfl ?_
            refine r_aload (pc := 59) C d_C_loseWhite_59 0 rfl ?_
            obtain ⟨o10, h⟩ := h
            refine r_alenQ (pc := 61) (v := nI (mL μ8 (y3 + 1))) C (ok_A o10) rfl d_C_loseWhite_61 ?_
            refine r_istore (pc := 62) (lv' := [(5, .inr (.inl (some (y3 + 1)))), (4, .inr (.inl (some y3))), (0, .inr (.inl (some 0))), (1, .inr (.inl (some 3))), (2, .inl l2), (3, .inl l3)]) C d_C_loseWhite_62 (by decide) rfl ?_
            refine r_iconst (pc := 64) C d_C_loseWhite_64 (v := 0) (by decide) ?_
            refine r_istore (pc := 65) (lv' := [(6, .inl (nI (mL μ8 (y3 + 1)))), (5, .inr (.inl (some (y3 + 1)))), (4, .inr (.inl (some y3))), (0, .inr (.inl (some 0))), (1, .inr (.inl (some 3))), (2, .inl l2), (3, .inl l3)]) C d_C_loseWhite_65 (by decide) rfl ?_
            obtain ⟨n21, h⟩ := h
            refine r_sub [4, 5, 6, 7, 2, 1, 0] rfl ?_
            refine L_67 (y3 + 1) (nI (mL μ8 (y3 + 1))) l2 l3 _ ?_ n21 0 μ8 h
            intro v20 μ19 h
            refine r_iinc (pc := 109) (v := 1) (lv' := [(0, .inr (.inl (some 0))), (1, .inr (.inl (some 3))), (2, .inl l2)]) C d_C_loseWhite_109 3 rfl (by decide) (by decide) rfl ?_
            refine r_goto (tgt := 10) (pc := 112) C d_C_loseWhite_112 (by decide) ?_
            refine r_sub [1, 2, 3, 0] rfl ?_
            exact ih (l3 + 1) μ19 h
          · intro hc; replace h := h.1 hc
            refine r_goto (tgt := 109) (pc := 33) C d_C_loseWhite_33 (by decide) ?_
            refine r_iinc (pc := 109) (v := 1) (lv' := [(4, .inr (.inl (some y3))), (0, .inr (.inl (some 0))), (1, .inr (.inl (some 3))), (2, .inl l2)]) C d_C_loseWhite_109 4 rfl (by decide) (by decide) rfl ?_
            refine r_goto (tgt := 10) (pc := 112) C d_C_loseWhite_112 (by decide) ?_
            refine r_sub [2, 3, 4, 0] rfl ?_
            exact ih (l3 + 1) μ5 h
  unfold wC_loseWhite at h
  refine r_aload_n (pc := 0) C d_C_loseWhite_0 rfl 0 rfl ?_
  refine r_getR (pc := 1) (ci := 0) C rfl 2 (by decide) (k_108 C.w) rfl (lay_O hg rfl) d_C_loseWhite_1 ?_
  refine r_astore_n (pc := 4) (lv' := [(0, .inr (.inl (some 0)))]) C d_C_loseWhite_4 rfl (by decide) rfl ?_
  refine r_aload_n (pc := 5) C d_C_loseWhite_5 rfl 0 rfl ?_
  refine r_alenQ (pc := 6) (v := 128) C (lay_A hg rfl) (by decide) d_C_loseWhite_6 ?_
  refine r_istore_n (pc := 7) (lv' := [(1, .inr (.inl (some 3))), (0, .inr (.inl (some 0)))]) C d_C_loseWhite_7 rfl (by decide) rfl ?_
  refine r_iconst (pc := 8) C d_C_loseWhite_8 (v := 0) (by decide) ?_
  refine r_istore_n (pc := 9) (lv' := [(2, .inl 128), (1, .inr (.inl (some 3))), (0, .inr (.inl (some 0)))]) C d_C_loseWhite_9 rfl (by decide) rfl ?_
  obtain ⟨n24, h⟩ := h
  refine r_sub [3, 2, 1, 0] rfl ?_
  refine L_10 128 _ ?_ n24 0 μ h
  intro v23 μ22 h
  exact r_vret (pc := 115) C Q d_C_loseWhite_115 (by decide) (by decide) h
theorem c_W_countOf {l : Launch} (hl : l.stackTraces = false) {G : Gl} (hg : gf G = true) {x : Nat} {a1 : Nat} {post : Int32 → Mem → Prop} {μ : Mem} (h : wW_countOf x a1 post μ) : Ct l G i_W_countOf [.inr (.inl (some x)), .inr (.inl (some a1))] μ (poI post) noX := by
  refine ct_of hl (by decide) (Nat.le_of_ble_eq_true rfl) ?_
  intro K hKl C Q hE
  clear hl hKl
  replace C : Cx K G prog_5_method_5_code "LineCollector$Row" 4 { frames := 0, cells := 0, slots := 0, locals := 0 } := C
  replace Q : Cq K G { frames := 0, cells := 0, slots := 0, locals := 0 } (some .int) (poI post) noX := Q
  show Rn K G 4 0 [(0, .inr (.inl (some x))), (1, .inr (.inl (some a1)))] [] μ 0 0
  have L_4 : ∀ (l0 : Nat) (l1 : Nat) (k : Int32 → Int32 → Mem → Prop), (∀ (v2 : Int32) (v3 : Int32) (μ : Mem), k v2 v3 μ → Rn K G 4 40 [(2, .inl v2)] [] μ 0 0) → ∀ (n : Nat) (l2 : Int32) (l3 : Int32) (μ : Mem), wW_countOf_4 l0 l1 k n l2 l3 μ → Rn K G 4 4 [(0, .inr (.inl (some l0))), (1, .inr (.inl (some l1))), (2, .inl l2), (3, .inl l3)] [] μ 0 0 := by
    intro l0 l1 k hk n
    induction n with
    | zero => intro l2 l3 μ h; exact h.elim
    | succ n ih =>
      intro l2 l3 μ h
      unfold wW_countOf_4 at h
      refine r_iload_n (pc := 4) C d_W_countOf_4 rfl 3 rfl ?_
      refine r_aload_n (pc := 5) C d_W_countOf_5 rfl 0 rfl ?_
      obtain ⟨o1, h⟩ := h
      refine r_getI (pc := 6) (ci := 4) C rfl 2 (by decide) (k_97 C.w) rfl (ok_O o1) d_W_countOf_6 ?_
      refine r_icmp_ge (tgt := 40) (pc := 9) C d_W_countOf_9 (by decide) ?_ ?_
      · intro hc; replace h := h.1 hc
        refine r_sub [2] rfl ?_
        exact hk l2 l3 μ h
      · intro hc; replace h := h.2 hc
        refine r_aload_n (pc := 12) C d_W_countOf_12 rfl 0 rfl ?_
        refine r_getR (pc := 13) (ci := 4) C rfl 0 (by decide) (k_95 C.w) rfl (ok_O o1) d_W_countOf_13 ?_
        refine r_aload_n (pc := 16) C d_W_countOf_16 rfl 0 rfl ?_
        refine r_getI (pc := 17) (ci := 4) C rfl 1 (by decide) (k_96 C.w) rfl (ok_O o1) d_W_countOf_17 ?_
        refine r_iload_n (pc := 20) C d_W_countOf_20 rfl 3 rfl ?_
        refine r_iadd (pc := 21) C d_W_countOf_21 ?_
        refine r_sipush (pc := 22) C d_W_countOf_22 (v := 262) (by decide) ?_
        refine r_irem (pc := 25) C d_W_countOf_25 (by decide) ?_
        obtain ⟨o2, h⟩ := h
        obtain ⟨b3, h⟩ := h
        refine r_aald (pc := 26) C (ok_A o2) b3 d_W_countOf_26 ?_
        intro e4 he4; replace h := h e4 he4
        refine r_aload_n (pc := 27) C d_W_countOf_27 rfl 1 rfl ?_
        refine r_acmp_ne (tgt := 34) (pc := 28) C d_W_countOf_28 (by decide) ?_ ?_
        · intro hc; replace h := h.2 hc
          refine r_iinc (pc := 34) (v := 1) (lv' := [(0, .inr (.inl (some l0))), (1, .inr (.inl (some l1))), (2, .inl l2)]) C d_W_countOf_34 3 rfl (by decide) (by decide) rfl ?_
          refine r_goto (tgt := 4) (pc := 37) C d_W_countOf_37 (by decide) ?_
          refine r_sub [1, 2, 3, 0] rfl ?_
          exact ih l2 (l3 + 1) μ h
        · intro hc; replace h := h.1 hc
          refine r_iinc (pc := 31) (v := 1) (lv' := [(0, .inr (.inl (some l0))), (1, .inr (.inl (some l1))), (3, .inl l3)]) C d_W_countOf_31 2 rfl (by decide) (by decide) rfl ?_
          refine r_iinc (pc := 34) (v := 1) (lv' := [(2, .inl (l2 + 1)), (0, .inr (.inl (some l0))), (1, .inr (.inl (some l1)))]) C d_W_countOf_34 3 rfl (by decide) (by decide) rfl ?_
          refine r_goto (tgt := 4) (pc := 37) C d_W_countOf_37 (by decide) ?_
          refine r_sub [2, 3, 1, 0] rfl ?_
          exact ih (l2 + 1) (l3 + 1) μ h
  unfold wW_countOf at h
  refine r_iconst (pc := 0) C d_W_countOf_0 (v := 0) (by decide) ?_
  refine r_istore_n (pc := 1) (lv' := [(0, .inr (.inl (some x))), (1, .inr (.inl (some a1)))]) C d_W_countOf_1 rfl (by decide) rfl ?_
  refine r_iconst (pc := 2) C d_W_countOf_2 (v := 0) (by decide) ?_
  refine r_istore_n (pc := 3) (lv' := [(2, .inl 0), (0, .inr (.inl (some x))), (1, .inr (.inl (some a1)))]) C d_W_countOf_3 rfl (by decide) rfl ?_
  obtain ⟨n8, h⟩ := h
  refine r_sub [2, 3, 1, 0] rfl ?_
  refine L_4 x a1 _ ?_ n8 0 0 μ h
  intro v6 v7 μ5 h
  refine r_iload_n (pc := 40) C d_W_countOf_40 rfl 0 rfl ?_
  exact r_iret (pc := 41) C Q d_W_countOf_41 (by decide) (by decide) h
theorem c_I_countFieldsHolding {l : Launch} (hl : l.stackTraces = false) {G : Gl} (hg : gf G = true) {x : Nat} {a1 : Nat} {post : Int32 → Mem → Prop} {μ : Mem} (h : wI_countFieldsHolding x a1 post μ) : Ct l G i_I_countFieldsHolding [.inr (.inl (some x)), .inr (.inl (some a1))] μ (poI post) noX := by
  refine ct_of hl (by decide) (Nat.le_of_ble_eq_true rfl) ?_
  intro K hKl C Q hE
  clear hl hKl
  replace C : Cx K G prog_2_method_7_code "LineCollector$Item" 7 { frames := 0, cells := 0, slots := 0, locals := 0 } := C
  replace Q : Cq K G { frames := 0, cells := 0, slots := 0, locals := 0 } (some .int) (poI post) noX := Q
  show Rn K G 7 0 [(0, .inr (.inl (some x))), (1, .inr (.inl (some a1)))] [] μ 0 0
  have L_14 : ∀ (l1 : Nat) (l3 : Nat) (l4 : Int32) (k : Int32 → Int32 → Mem → Prop), (∀ (v2 : Int32) (v5 : Int32) (μ : Mem), k v2 v5 μ → Rn K G 7 42 [(2, .inl v2)] [] μ 0 0) → ∀ (n : Nat) (l2 : Int32) (l5 : Int32) (μ : Mem), wI_countFieldsHolding_14 l1 l3 l4 k n l2 l5 μ → Rn K G 7 14 [(1, .inr (.inl (some l1))), (2, .inl l2), (3, .inr (.inl (some l3))), (4, .inl l4), (5, .inl l5)] [] μ 0 0 := by
    intro l1 l3 l4 k hk n
    induction n with
    | zero => intro l2 l5 μ h; exact h.elim
    | succ n ih =>
      intro l2 l5 μ h
      unfold wI_countFieldsHolding_14 at h
      refine r_iload (pc := 14) C d_I_countFieldsHolding_14 4 rfl ?_
      refine r_iload (pc := 16) C d_I_countFieldsHolding_16 3 rfl ?_
      refine r_icmp_ge (tgt := 42) (pc := 18) C d_I_countFieldsHolding_18 (by decide) ?_ ?_
      · intro hc; replace h := h.1 hc
        refine r_sub [1] rfl ?_
        exact hk l2 l5 μ h
      · intro hc; replace h := h.2 hc
        refine r_aload_n (pc := 21) C d_I_countFieldsHolding_21 rfl 2 rfl ?_
        refine r_iload (pc := 22) C d_I_countFieldsHolding_22 4 rfl ?_
        obtain ⟨o3, h⟩ := h
        obtain ⟨b4, h⟩ := h
        refine r_aald (pc := 24) C (ok_A o3) b4 d_I_countFieldsHolding_24 ?_
        intro e5 he5; replace h := h e5 he5
        refine r_astore (pc := 25) (lv' := [(1, .inr (.inl (some l1))), (2, .inl l2), (3, .inr (.inl (some l3))), (4, .inl l4), (5, .inl l5)]) C d_I_countFieldsHolding_25 (by decide) rfl ?_
        refine r_aload (pc := 27) C d_I_countFieldsHolding_27 0 rfl ?_
        refine r_aload_n (pc := 29) C d_I_countFieldsHolding_29 rfl 1 rfl ?_
        refine r_acmp_ne (tgt := 36) (pc := 30) C d_I_countFieldsHolding_30 (by decide) ?_ ?_
        · intro hc; replace h := h.2 hc
          refine r_iinc (pc := 36) (v := 1) (lv' := [(6, .inr (.inl e5)), (1, .inr (.inl (some l1))), (2, .inl l2), (3, .inr (.inl (some l3))), (4, .inl l4)]) C d_I_countFieldsHolding_36 5 rfl (by decide) (by decide) rfl ?_
          refine r_goto (tgt := 14) (pc := 39) C d_I_countFieldsHolding_39 (by decide) ?_
          refine r_sub [2, 3, 4, 5, 0] rfl ?_
          exact ih l2 (l5 + 1) μ h
        · intro hc; replace h := h.1 hc
          refine r_iinc (pc := 33) (v := 1) (lv' := [(6, .inr (.inl e5)), (1, .inr (.inl (some l1))), (3, .inr (.inl (some l3))), (4, .inl l4), (5, .inl l5)]) C d_I_countFieldsHolding_33 2 rfl (by decide) (by decide) rfl ?_
          refine r_iinc (pc := 36) (v := 1) (lv' := [(2, .inl (l2 + 1)), (6, .inr (.inl e5)), (1, .inr (.inl (some l1))), (3, .inr (.inl (some l3))), (4, .inl l4)]) C d_I_countFieldsHolding_36 5 rfl (by decide) (by decide) rfl ?_
          refine r_goto (tgt := 14) (pc := 39) C d_I_countFieldsHolding_39 (by decide) ?_
          refine r_sub [3, 1, 4, 5, 0] rfl ?_
          exact ih (l2 + 1) (l5 + 1) μ h
  unfold wI_countFieldsHolding at h
  refine r_iconst (pc := 0) C d_I_countFieldsHolding_0 (v := 0) (by decide) ?_
  refine r_istore_n (pc := 1) (lv' := [(0, .inr (.inl (some x))), (1, .inr (.inl (some a1)))]) C d_I_countFieldsHolding_1 rfl (by decide) rfl ?_
  refine r_aload_n (pc := 2) C d_I_countFieldsHolding_2 rfl 1 rfl ?_
  obtain ⟨o1, h⟩ := h
  refine r_getR (pc := 3) (ci := 5) C rfl 2 (by decide) (k_464 C.w) rfl (ok_O o1) d_I_countFieldsHolding_3 ?_
  refine r_astore_n (pc := 6) (lv' := [(2, .inl 0), (0, .inr (.inl (some x))), (1, .inr (.inl (some a1)))]) C d_I_countFieldsHolding_6 rfl (by decide) rfl ?_
  refine r_aload_n (pc := 7) C d_I_countFieldsHolding_7 rfl 0 rfl ?_
  obtain ⟨o2, h⟩ := h
  refine r_alenQ (pc := 8) (v := nI (mL μ (x + 1))) C (ok_A o2) rfl d_I_countFieldsHolding_8 ?_
  refine r_istore (pc := 9) (lv' := [(3, .inr (.inl (some (x + 1)))), (2, .inl 0), (0, .inr (.inl (some x))), (1, .inr (.inl (some a1)))]) C d_I_countFieldsHolding_9 (by decide) rfl ?_
  refine r_iconst (pc := 11) C d_I_countFieldsHolding_11 (v := 0) (by decide) ?_
  refine r_istore (pc := 12) (lv' := [(4, .inl (nI (mL μ (x + 1)))), (3, .inr (.inl (some (x + 1)))), (2, .inl 0), (0, .inr (.inl (some x))), (1, .inr (.inl (some a1)))]) C d_I_countFieldsHolding_12 (by decide) rfl ?_
  obtain ⟨n9, h⟩ := h
  refine r_sub [5, 3, 2, 1, 0] rfl ?_
  refine L_14 a1 (x + 1) (nI (mL μ (x + 1))) _ ?_ n9 0 0 μ h
  intro v7 v8 μ6 h
  refine r_iload_n (pc := 42) C d_I_countFieldsHolding_42 rfl 0 rfl ?_
  exact r_iret (pc := 43) C Q d_I_countFieldsHolding_43 (by decide) (by decide) h
theorem c_C_countHolders {l : Launch} (hl : l.stackTraces = false) {G : Gl} (hg : gf G = true) {a1 : Nat} {post : Int32 → Mem → Prop} {μ : Mem} (h : wC_countHolders a1 post μ) : Ct l G i_C_countHolders [.inr (.inl (some 0)), .inr (.inl (some a1))] μ (poI post) noX := by
  refine ct_of hl (by decide) (Nat.le_of_ble_eq_true rfl) ?_
  intro K hKl C Q hE
  clear hl hKl
  replace C : Cx K G prog_1_method_40_code "LineCollector" 7 { frames := 1, cells := 0, slots := 0, locals := 26 } := C
  replace Q : Cq K G { frames := 1, cells := 0, slots := 0, locals := 26 } (some .int) (poI post) noX := Q
  show Rn K G 7 0 [(0, .inr (.inl (some 0))), (1, .inr (.inl (some a1)))] [] μ 0 0
  have L_21 : ∀ (l1 : Nat) (l4 : Int32) (k : Int32 → Int32 → Mem → Prop), (∀ (v2 : Int32) (v5 : Int32) (μ : Mem), k v2 v5 μ → Rn K G 7 49 [(0, .inr (.inl (some 0))), (1, .inr (.inl (some l1))), (2, .inl v2)] [] μ 0 0) → ∀ (n : Nat) (l2 : Int32) (l5 : Int32) (μ : Mem), wC_countHolders_21 l1 l4 k n l2 l5 μ → Rn K G 7 21 [(0, .inr (.inl (some 0))), (1, .inr (.inl (some l1))), (2, .inl l2), (3, .inr (.inl (some 1))), (4, .inl l4), (5, .inl l5)] [] μ 0 0 := by
    intro l1 l4 k hk n
    induction n with
    | zero => intro l2 l5 μ h; exact h.elim
    | succ n ih =>
      intro l2 l5 μ h
      unfold wC_countHolders_21 at h
      refine r_iload (pc := 21) C d_C_countHolders_21 5 rfl ?_
      refine r_iload (pc := 23) C d_C_countHolders_23 4 rfl ?_
      refine r_icmp_ge (tgt := 49) (pc := 25) C d_C_countHolders_25 (by decide) ?_ ?_
      · intro hc; replace h := h.1 hc
        refine r_sub [0, 1, 2] rfl ?_
        exact hk l2 l5 μ h
      · intro hc; replace h := h.2 hc
        refine r_aload_n (pc := 28) C d_C_countHolders_28 rfl 3 rfl ?_
        refine r_iload (pc := 29) C d_C_countHolders_29 5 rfl ?_
        obtain ⟨b3, h⟩ := h
        refine r_aald (pc := 31) C (lay_A hg rfl) b3 d_C_countHolders_31 ?_
        intro e4 he4; replace h := h e4 he4
        refine r_astore (pc := 32) (lv' := [(0, .inr (.inl (some 0))), (1, .inr (.inl (some l1))), (2, .inl l2), (3, .inr (.inl (some 1))), (4, .inl l4), (5, .inl l5)]) C d_C_countHolders_32 (by decide) rfl ?_
        refine r_aload (pc := 34) C d_C_countHolders_34 0 rfl ?_
        refine r_aload_n (pc := 36) C d_C_countHolders_36 rfl 2 rfl ?_
        refine r_acmp_ne (tgt := 43) (pc := 37) C d_C_countHolders_37 (by decide) ?_ ?_
        · intro hc; replace h := h.2 hc
          refine r_iinc (pc := 43) (v := 1) (lv' := [(6, .inr (.inl e4)), (0, .inr (.inl (some 0))), (1, .inr (.inl (some l1))), (2, .inl l2), (3, .inr (.inl (some 1))), (4, .inl l4)]) C d_C_countHolders_43 6 rfl (by decide) (by decide) rfl ?_
          refine r_goto (tgt := 21) (pc := 46) C d_C_countHolders_46 (by decide) ?_
          refine r_sub [2, 3, 4, 5, 6, 0] rfl ?_
          exact ih l2 (l5 + 1) μ h
        · intro hc; replace h := h.1 hc
          refine r_iinc (pc := 40) (v := 1) (lv' := [(6, .inr (.inl e4)), (0, .inr (.inl (some 0))), (1, .inr (.inl (some l1))), (3, .inr (.inl (some 1))), (4, .inl l4), (5, .inl l5)]) C d_C_countHolders_40 3 rfl (by decide) (by decide) rfl ?_
          refine r_iinc (pc := 43) (v := 1) (lv' := [(2, .inl (l2 + 1)), (6, .inr (.inl e4)), (0, .inr (.inl (some 0))), (1, .inr (.inl (some l1))), (3, .inr (.inl (some 1))), (4, .inl l4)]) C d_C_countHolders_43 6 rfl (by decide) (by decide) rfl ?_
          refine r_goto (tgt := 21) (pc := 46) C d_C_countHolders_46 (by decide) ?_
          refine r_sub [3, 4, 1, 5, 6, 0] rfl ?_
          exact ih (l2 + 1) (l5 + 1) μ h
  have L_61 : ∀ (l1 : Nat) (l4 : Int32) (k : Int32 → Int32 → Mem → Prop), (∀ (v2 : Int32) (v5 : Int32) (μ : Mem), k v2 v5 μ → Rn K G 7 94 [(2, .inl v2)] [] μ 0 0) → ∀ (n : Nat) (l2 : Int32) (l5 : Int32) (μ : Mem), wC_countHolders_61 l1 l4 k n l2 l5 μ → Rn K G 7 61 [(1, .inr (.inl (some l1))), (2, .inl l2), (3, .inr (.inl (some 3))), (4, .inl l4), (5, .inl l5)] [] μ 0 0 := by
    intro l1 l4 k hk n
    induction n with
    | zero => intro l2 l5 μ h; exact h.elim
    | succ n ih =>
      intro l2 l5 μ h
      unfold wC_countHolders_61 at h
      refine r_iload (pc := 61) C d_C_countHolders_61 4 rfl ?_
      refine r_iload (pc := 63) C d_C_countHolders_63 3 rfl ?_
      refine r_icmp_ge (tgt := 94) (pc := 65) C d_C_countHolders_65 (by decide) ?_ ?_
      · intro hc; replace h := h.1 hc
        refine r_sub [1] rfl ?_
        exact hk l2 l5 μ h
      · intro hc; replace h := h.2 hc
        refine r_aload_n (pc := 68) C d_C_countHolders_68 rfl 2 rfl ?_
        refine r_iload (pc := 69) C d_C_countHolders_69 4 rfl ?_
        obtain ⟨b8, h⟩ := h
        refine r_aald (pc := 71) C (lay_A hg rfl) b8 d_C_countHolders_71 ?_
        intro e9 he9; replace h := h e9 he9
        refine r_astore (pc := 72) (lv' := [(1, .inr (.inl (some l1))), (2, .inl l2), (3, .inr (.inl (some 3))), (4, .inl l4), (5, .inl l5)]) C d_C_countHolders_72 (by decide) rfl ?_
        refine r_aload (pc := 74) C d_C_countHolders_74 0 rfl ?_
        refine r_ifnull (tgt := 88) (pc := 76) C d_C_countHolders_76 (by decide) ?_ ?_
        · intro h0; subst h0; replace h := h.1 rfl
          refine r_iinc (pc := 88) (v := 1) (lv' := [(6, .inr (.inl none)), (1, .inr (.inl (some l1))), (2, .inl l2), (3, .inr (.inl (some 3))), (4, .inl l4)]) C d_C_countHolders_88 5 rfl (by decide) (by decide) rfl ?_
          refine r_goto (tgt := 61) (pc := 91) C d_C_countHolders_91 (by decide) ?_
          refine r_sub [2, 3, 4, 5, 0] rfl ?_
          exact ih l2 (l5 + 1) μ h
        · intro y10 h0; subst h0; replace h := h.2 y10 rfl
          refine r_iload_n (pc := 79) C d_C_countHolders_79 rfl 2 rfl ?_
          refine r_aload (pc := 80) C d_C_countHolders_80 0 rfl ?_
          refine r_aload_n (pc := 82) C d_C_countHolders_82 rfl 1 rfl ?_
          obtain ⟨o11, h⟩ := h
          refine r_cVi (pc := 83) (a' := 0) (b' := 0) (As := [.inr (.inl (some l1))]) (ci := 5) C (c_I_countFieldsHolding C.s hg h) o_I_countFieldsHolding rfl (ok_O o11) (k_310 C.w) rfl ⟨by decide, by decide, by decide, by decide⟩ rfl rfl (Nat.le_of_ble_eq_true rfl) d_C_countHolders_83 rfl ?_
          intro r13 μ12 h
          refine r_iadd (pc := 86) C d_C_countHolders_86 ?_
          refine r_istore_n (pc := 87) (lv' := [(6, .inr (.inl (some y10))), (1, .inr (.inl (some l1))), (3, .inr (.inl (some 3))), (4, .inl l4), (5, .inl l5)]) C d_C_countHolders_87 rfl (by decide) rfl ?_
          refine r_iinc (pc := 88) (v := 1) (lv' := [(2, .inl (l2 + r13)), (6, .inr (.inl (some y10))), (1, .inr (.inl (some l1))), (3, .inr (.inl (some 3))), (4, .inl l4)]) C d_C_countHolders_88 5 rfl (by decide) (by decide) rfl ?_
          refine r_goto (tgt := 61) (pc := 91) C d_C_countHolders_91 (by decide) ?_
          refine r_sub [3, 1, 4, 5, 0] rfl ?_
          exact ih (l2 + r13) (l5 + 1) μ12 h
  unfold wC_countHolders at h
  refine r_aload_n (pc := 0) C d_C_countHolders_0 rfl 0 rfl ?_
  refine r_getR (pc := 1) (ci := 0) C rfl 5 (by decide) (k_111 C.w) rfl (lay_O hg rfl) d_C_countHolders_1 ?_
  refine r_aload_n (pc := 4) C d_C_countHolders_4 rfl 1 rfl ?_
  refine r_cVi (pc := 5) (a' := 0) (b' := 0) (As := [.inr (.inl (some a1))]) (ci := 4) C (c_W_countOf C.s hg h) o_W_countOf rfl (lay_O hg rfl) (k_306 C.w) rfl ⟨by decide, by decide, by decide, by decide⟩ rfl rfl (Nat.le_of_ble_eq_true rfl) d_C_countHolders_5 rfl ?_
  intro r2 μ1 h
  refine r_istore_n (pc := 8) (lv' := [(0, .inr (.inl (some 0))), (1, .inr (.inl (some a1)))]) C d_C_countHolders_8 rfl (by decide) rfl ?_
  refine r_aload_n (pc := 9) C d_C_countHolders_9 rfl 1 rfl ?_
  refine r_getR (pc := 10) (ci := 0) C rfl 0 (by decide) (k_106 C.w) rfl (lay_O hg rfl) d_C_countHolders_10 ?_
  refine r_astore_n (pc := 13) (lv' := [(2, .inl r2), (0, .inr (.inl (some 0))), (1, .inr (.inl (some a1)))]) C d_C_countHolders_13 rfl (by decide) rfl ?_
  refine r_aload_n (pc := 14) C d_C_countHolders_14 rfl 0 rfl ?_
  refine r_alenQ (pc := 15) (v := 6) C (lay_A hg rfl) (by decide) d_C_countHolders_15 ?_
  refine r_istore (pc := 16) (lv' := [(3, .inr (.inl (some 1))), (2, .inl r2), (0, .inr (.inl (some 0))), (1, .inr (.inl (some a1)))]) C d_C_countHolders_16 (by decide) rfl ?_
  refine r_iconst (pc := 18) C d_C_countHolders_18 (v := 0) (by decide) ?_
  refine r_istore (pc := 19) (lv' := [(4, .inl 6), (3, .inr (.inl (some 1))), (2, .inl r2), (0, .inr (.inl (some 0))), (1, .inr (.inl (some a1)))]) C d_C_countHolders_19 (by decide) rfl ?_
  obtain ⟨n18, h⟩ := h
  refine r_sub [4, 5, 3, 2, 1, 0] rfl ?_
  refine L_21 a1 6 _ ?_ n18 r2 0 μ1 h
  intro v6 v7 μ5 h
  refine r_aload_n (pc := 49) C d_C_countHolders_49 rfl 0 rfl ?_
  refine r_getR (pc := 50) (ci := 0) C rfl 2 (by decide) (k_108 C.w) rfl (lay_O hg rfl) d_C_countHolders_50 ?_
  refine r_astore_n (pc := 53) (lv' := [(0, .inr (.inl (some 0))), (1, .inr (.inl (some a1))), (2, .inl v6)]) C d_C_countHolders_53 rfl (by decide) rfl ?_
  refine r_aload_n (pc := 54) C d_C_countHolders_54 rfl 0 rfl ?_
  refine r_alenQ (pc := 55) (v := 128) C (lay_A hg rfl) (by decide) d_C_countHolders_55 ?_
  refine r_istore (pc := 56) (lv' := [(3, .inr (.inl (some 3))), (0, .inr (.inl (some 0))), (1, .inr (.inl (some a1))), (2, .inl v6)]) C d_C_countHolders_56 (by decide) rfl ?_
  refine r_iconst (pc := 58) C d_C_countHolders_58 (v := 0) (by decide) ?_
  refine r_istore (pc := 59) (lv' := [(4, .inl 128), (3, .inr (.inl (some 3))), (0, .inr (.inl (some 0))), (1, .inr (.inl (some a1))), (2, .inl v6)]) C d_C_countHolders_59 (by decide) rfl ?_
  obtain ⟨n17, h⟩ := h
  refine r_sub [4, 5, 2, 1, 0] rfl ?_
  refine L_61 a1 128 _ ?_ n17 v6 0 μ5 h
  intro v15 v16 μ14 h
  refine r_iload_n (pc := 94) C d_C_countHolders_94 rfl 0 rfl ?_
  exact r_iret (pc := 95) C Q d_C_countHolders_95 (by decide) (by decide) h
