/-! The machine meets the predicates (written by a program) -/
theorem c_C_pause {l : Launch} (hl : l.stackTraces = false) {G : Gl} {a1 : Int32} {post : Int32 → Mem → Prop} {μ : Mem} (h : wC_pause a1 post μ) : Ct l G i_C_pause [.inr (.inl (some 0)), .inl a1] μ (poI post) noX := by
  refine ct_of hl (by decide) (Nat.le_of_ble_eq_true rfl) ?_
  intro K hKl C hE
  clear hl hKl
  replace C : Cx K G prog_1_method_9_code "LineCollector" 3 { frames := 5, cells := 0, slots := 0, locals := 111 } (some .int) (poI post) noX := C
  show Rn K G 3 0 [(0, .inr (.inl (some 0))), (1, .inl a1)] [] μ 0 0
  have J_71 : ∀ (l1 : Int32) (l2 : Int32) (μ : Mem), wC_pause_71 l1 l2 post μ → Rn K G 3 71 [(0, .inr (.inl (some 0))), (1, .inl l1), (2, .inl l2)] [] μ 0 0 := by
    intro l1 l2 μ h
    unfold wC_pause_71 at h
    refine r_iload_n (pc := 71) C d_C_pause_71 rfl 1 rfl ?_
    refine r_if_eq (tgt := 86) (pc := 72) C d_C_pause_72 (by decide) ?_ ?_
    · intro hc; replace h := h.1 hc
      refine r_aload_n (pc := 86) C d_C_pause_86 rfl 0 rfl ?_
      refine r_getR (pc := 87) (ci := 0) C rfl 3 (by decide) (k_109 C.w) rfl (lay_O rfl) d_C_pause_87 ?_
      refine r_cVv (pc := 90) (a' := 0) (b' := 0) (As := []) (ci := 1) C (c_P_close C.s h) o_P_close rfl (lay_O rfl) (k_181 C.w) rfl ⟨by decide, by decide, by decide, by decide⟩ rfl rfl (Nat.le_of_ble_eq_true rfl) d_C_pause_90 rfl ?_
      intro μ8 h
      refine r_aload_n (pc := 93) C d_C_pause_93 rfl 0 rfl ?_
      refine r_cVv (pc := 94) (a' := 0) (b' := 0) (As := []) (ci := 0) C (c_C_rememberRoots C.s h) o_C_rememberRoots rfl (lay_O rfl) (k_342 C.w) rfl ⟨by decide, by decide, by decide, by decide⟩ rfl rfl (Nat.le_of_ble_eq_true rfl) d_C_pause_94 rfl ?_
      intro μ9 h
      refine r_iload_n (pc := 97) C d_C_pause_97 rfl 2 rfl ?_
      exact r_iret (pc := 98) C d_C_pause_98 (by decide) (by decide) h
    · intro hc; replace h := h.2 hc
      refine r_aload_n (pc := 75) C d_C_pause_75 rfl 0 rfl ?_
      refine r_getI (pc := 76) (ci := 0) C rfl 7 (by decide) (k_113 C.w) rfl (lay_O rfl) d_C_pause_76 ?_
      refine r_if_ne (tgt := 86) (pc := 79) C d_C_pause_79 (by decide) ?_ ?_
      · intro hc; replace h := h.2 hc
        refine r_aload_n (pc := 86) C d_C_pause_86 rfl 0 rfl ?_
        refine r_getR (pc := 87) (ci := 0) C rfl 3 (by decide) (k_109 C.w) rfl (lay_O rfl) d_C_pause_87 ?_
        refine r_cVv (pc := 90) (a' := 0) (b' := 0) (As := []) (ci := 1) C (c_P_close C.s h) o_P_close rfl (lay_O rfl) (k_181 C.w) rfl ⟨by decide, by decide, by decide, by decide⟩ rfl rfl (Nat.le_of_ble_eq_true rfl) d_C_pause_90 rfl ?_
        intro μ10 h
        refine r_aload_n (pc := 93) C d_C_pause_93 rfl 0 rfl ?_
        refine r_cVv (pc := 94) (a' := 0) (b' := 0) (As := []) (ci := 0) C (c_C_rememberRoots C.s h) o_C_rememberRoots rfl (lay_O rfl) (k_342 C.w) rfl ⟨by decide, by decide, by decide, by decide⟩ rfl rfl (Nat.le_of_ble_eq_true rfl) d_C_pause_94 rfl ?_
        intro μ11 h
        refine r_iload_n (pc := 97) C d_C_pause_97 rfl 2 rfl ?_
        exact r_iret (pc := 98) C d_C_pause_98 (by decide) (by decide) h
      · intro hc; replace h := h.1 hc
        refine r_aload_n (pc := 82) C d_C_pause_82 rfl 0 rfl ?_
        refine r_cVv (pc := 83) (a' := 0) (b' := 0) (As := []) (ci := 0) C (c_C_beginTrace C.s h) o_C_beginTrace rfl (lay_O rfl) (k_338 C.w) rfl ⟨by decide, by decide, by decide, by decide⟩ rfl rfl (Nat.le_of_ble_eq_true rfl) d_C_pause_83 rfl ?_
        intro μ12 h
        refine r_aload_n (pc := 86) C d_C_pause_86 rfl 0 rfl ?_
        refine r_getR (pc := 87) (ci := 0) C rfl 3 (by decide) (k_109 C.w) rfl (lay_O rfl) d_C_pause_87 ?_
        refine r_cVv (pc := 90) (a' := 0) (b' := 0) (As := []) (ci := 1) C (c_P_close C.s h) o_P_close rfl (lay_O rfl) (k_181 C.w) rfl ⟨by decide, by decide, by decide, by decide⟩ rfl rfl (Nat.le_of_ble_eq_true rfl) d_C_pause_90 rfl ?_
        intro μ13 h
        refine r_aload_n (pc := 93) C d_C_pause_93 rfl 0 rfl ?_
        refine r_cVv (pc := 94) (a' := 0) (b' := 0) (As := []) (ci := 0) C (c_C_rememberRoots C.s h) o_C_rememberRoots rfl (lay_O rfl) (k_342 C.w) rfl ⟨by decide, by decide, by decide, by decide⟩ rfl rfl (Nat.le_of_ble_eq_true rfl) d_C_pause_94 rfl ?_
        intro μ14 h
        refine r_iload_n (pc := 97) C d_C_pause_97 rfl 2 rfl ?_
        exact r_iret (pc := 98) C d_C_pause_98 (by decide) (by decide) h
  unfold wC_pause at h
  refine r_aload_n (pc := 0) C d_C_pause_0 rfl 0 rfl ?_
  refine r_dupR (pc := 1) C d_C_pause_1 ?_
  refine r_getI (pc := 2) (ci := 0) C rfl 8 (by decide) (k_114 C.w) rfl (lay_O rfl) d_C_pause_2 ?_
  refine r_iconst (pc := 5) C d_C_pause_5 (v := 1) (by decide) ?_
  refine r_iadd (pc := 6) C d_C_pause_6 ?_
  refine r_putI (pc := 7) (ci := 0) C rfl 8 (by decide) (k_114 C.w) rfl rfl p_I (lay_O rfl) d_C_pause_7 ?_
  intro μ1 eμ1; replace h := h μ1 eμ1
  refine r_aload_n (pc := 10) C d_C_pause_10 rfl 0 rfl ?_
  refine r_ldc (pc := 11) C (k_144 C.w) d_C_pause_11 ?_
  refine r_cVv (pc := 13) (a' := 0) (b' := 0) (As := [.inl 1000000]) (ci := 0) C (c_C_drainUpTo C.s h) o_C_drainUpTo rfl (lay_O rfl) (k_145 C.w) rfl ⟨by decide, by decide, by decide, by decide⟩ rfl rfl (Nat.le_of_ble_eq_true rfl) d_C_pause_13 rfl ?_
  intro μ2 h
  refine r_aload_n (pc := 16) C d_C_pause_16 rfl 0 rfl ?_
  refine r_getR (pc := 17) (ci := 0) C rfl 3 (by decide) (k_109 C.w) rfl (lay_O rfl) d_C_pause_17 ?_
  refine r_cVv (pc := 20) (a' := 0) (b' := 0) (As := []) (ci := 1) C (c_P_close C.s h) o_P_close rfl (lay_O rfl) (k_181 C.w) rfl ⟨by decide, by decide, by decide, by decide⟩ rfl rfl (Nat.le_of_ble_eq_true rfl) d_C_pause_20 rfl ?_
  intro μ3 h
  refine r_aload_n (pc := 23) C d_C_pause_23 rfl 0 rfl ?_
  refine r_cVi (pc := 24) (a' := 0) (b' := 0) (As := []) (ci := 0) C (c_C_countSlots C.s h) o_C_countSlots rfl (lay_O rfl) (k_189 C.w) rfl ⟨by decide, by decide, by decide, by decide⟩ rfl rfl (Nat.le_of_ble_eq_true rfl) d_C_pause_24 rfl ?_
  intro r5 μ4 h
  refine r_istore_n (pc := 27) (lv' := [(0, .inr (.inl (some 0))), (1, .inl a1)]) C d_C_pause_27 rfl (by decide) rfl ?_
  refine r_aload_n (pc := 28) C d_C_pause_28 rfl 1 rfl ?_
  refine r_cVv (pc := 29) (a' := 0) (b' := 0) (As := []) (ci := 0) C (c_C_loseYoung C.s h) o_C_loseYoung rfl (lay_O rfl) (k_273 C.w) rfl ⟨by decide, by decide, by decide, by decide⟩ rfl rfl (Nat.le_of_ble_eq_true rfl) d_C_pause_29 rfl ?_
  intro μ6 h
  refine r_aload_n (pc := 32) C d_C_pause_32 rfl 1 rfl ?_
  refine r_cVv (pc := 33) (a' := 0) (b' := 0) (As := []) (ci := 0) C (c_C_queueRootsAndLog C.s h) o_C_queueRootsAndLog rfl (lay_O rfl) (k_277 C.w) rfl ⟨by decide, by decide, by decide, by decide⟩ rfl rfl (Nat.le_of_ble_eq_true rfl) d_C_pause_33 rfl ?_
  intro μ7 h
  refine r_aload_n (pc := 36) C d_C_pause_36 rfl 1 rfl ?_
  refine r_getI (pc := 37) (ci := 0) C rfl 7 (by decide) (k_113 C.w) rfl (lay_O rfl) d_C_pause_37 ?_
  refine r_if_eq (tgt := 71) (pc := 40) C d_C_pause_40 (by decide) ?_ ?_
  · intro hc; replace h := h.1 hc
    refine r_sub [1, 2, 0] rfl ?_
    exact J_71 a1 r5 μ7 h
  · intro hc; replace h := h.2 hc
    refine r_aload_n (pc := 43) C d_C_pause_43 rfl 1 rfl ?_
    refine r_cVi (pc := 44) (a' := 0) (b' := 0) (As := []) (ci := 0) C (c_C_countGrey C.s h) o_C_countGrey rfl (lay_O rfl) (k_289 C.w) rfl ⟨by decide, by decide, by decide, by decide⟩ rfl rfl (Nat.le_of_ble_eq_true rfl) d_C_pause_44 rfl ?_
    intro r16 μ15 h
    refine r_if_ne (tgt := 71) (pc := 47) C d_C_pause_47 (by decide) ?_ ?_
    · intro hc; replace h := h.2 hc
      refine r_sub [1, 2, 0] rfl ?_
      exact J_71 a1 r5 μ15 h
    · intro hc; replace h := h.1 hc
      refine r_aload_n (pc := 50) C d_C_pause_50 rfl 1 rfl ?_
      refine r_cVv (pc := 51) (a' := 0) (b' := 0) (As := []) (ci := 0) C (c_C_loseWhite C.s h) o_C_loseWhite rfl (lay_O rfl) (k_293 C.w) rfl ⟨by decide, by decide, by decide, by decide⟩ rfl rfl (Nat.le_of_ble_eq_true rfl) d_C_pause_51 rfl ?_
      intro μ17 h
      refine r_aload_n (pc := 54) C d_C_pause_54 rfl 1 rfl ?_
      refine r_cVv (pc := 55) (a' := 0) (b' := 0) (As := []) (ci := 0) C (c_C_recountStuck C.s h) o_C_recountStuck rfl (lay_O rfl) (k_298 C.w) rfl ⟨by decide, by decide, by decide, by decide⟩ rfl rfl (Nat.le_of_ble_eq_true rfl) d_C_pause_55 rfl ?_
      intro μ18 h
      refine r_aload_n (pc := 58) C d_C_pause_58 rfl 1 rfl ?_
      refine r_cVv (pc := 59) (a' := 0) (b' := 0) (As := []) (ci := 0) C (c_C_whitenAll C.s h) o_C_whitenAll rfl (lay_O rfl) (k_314 C.w) rfl ⟨by decide, by decide, by decide, by decide⟩ rfl rfl (Nat.le_of_ble_eq_true rfl) d_C_pause_59 rfl ?_
      intro μ19 h
      refine r_aload_n (pc := 62) C d_C_pause_62 rfl 1 rfl ?_
      refine r_cVv (pc := 63) (a' := 0) (b' := 0) (As := []) (ci := 0) C (c_C_clearSparsestBlock C.s h) o_C_clearSparsestBlock rfl (lay_O rfl) (k_318 C.w) rfl ⟨by decide, by decide, by decide, by decide⟩ rfl rfl (Nat.le_of_ble_eq_true rfl) d_C_pause_63 rfl ?_
      intro μ20 h
      refine r_aload_n (pc := 66) C d_C_pause_66 rfl 1 rfl ?_
      refine r_iconst (pc := 67) C d_C_pause_67 (v := 0) (by decide) ?_
      refine r_putZ (pc := 68) (ci := 0) C rfl 7 (by decide) (k_113 C.w) rfl rfl p_Z (Or.inl rfl) (lay_O rfl) d_C_pause_68 ?_
      intro μ21 eμ21; replace h := h μ21 eμ21
      refine r_sub [1, 2, 0] rfl ?_
      exact J_71 a1 r5 μ21 h
theorem c_C_blacken {l : Launch} (hl : l.stackTraces = false) {G : Gl} {a1 : Nat} {post : Mem → Prop} {μ : Mem} (h : wC_blacken a1 post μ) : Ct l G i_C_blacken [.inr (.inl (some a1))] μ (poV post) noX := by
  refine ct_of hl (by decide) (Nat.le_of_ble_eq_true rfl) ?_
  intro K hKl C hE
  clear hl hKl
  replace C : Cx K G prog_1_method_30_code "LineCollector" 5 { frames := 3, cells := 0, slots := 0, locals := 60 } (none) (poV post) noX := C
  show Rn K G 5 0 [(0, .inr (.inl (some a1)))] [] μ 0 0
  have L_15 : ∀ (l1 : Nat) (l2 : Int32) (k : Int32 → Mem → Prop), (∀ (v3 : Int32) (μ : Mem), k v3 μ → Rn K G 5 41 [] [] μ 0 0) → ∀ (n : Nat) (l3 : Int32) (μ : Mem), wC_blacken_15 l1 l2 k n l3 μ → Rn K G 5 15 [(1, .inr (.inl (some l1))), (2, .inl l2), (3, .inl l3)] [] μ 0 0 := by
    intro l1 l2 k hk n
    induction n with
    | zero => intro l3 μ h; exact h.elim
    | succ n ih =>
      intro l3 μ h
      unfold wC_blacken_15 at h
      refine r_iload_n (pc := 15) C d_C_blacken_15 rfl 2 rfl ?_
      refine r_iload_n (pc := 16) C d_C_blacken_16 rfl 1 rfl ?_
      refine r_icmp_ge (tgt := 41) (pc := 17) C d_C_blacken_17 (by decide) ?_ ?_
      · intro hc; replace h := h.1 hc
        refine r_sub [] rfl ?_
        exact hk l3 μ h
      · intro hc; replace h := h.2 hc
        refine r_aload_n (pc := 20) C d_C_blacken_20 rfl 0 rfl ?_
        refine r_iload_n (pc := 21) C d_C_blacken_21 rfl 2 rfl ?_
        obtain ⟨o4, h⟩ := h
        obtain ⟨b5, h⟩ := h
        refine r_aald (pc := 22) C (ok_A o4) b5 d_C_blacken_22 ?_
        intro e6 he6; replace h := h e6 he6
        refine r_astore (pc := 23) (lv' := [(1, .inr (.inl (some l1))), (2, .inl l2), (3, .inl l3)]) C d_C_blacken_23 (by decide) rfl ?_
        refine r_aload (pc := 25) C d_C_blacken_25 0 rfl ?_
        refine r_ifnull (tgt := 35) (pc := 27) C d_C_blacken_27 (by decide) ?_ ?_
        · intro h0; subst h0; replace h := h.1 rfl
          refine r_iinc (pc := 35) (v := 1) (lv' := [(4, .inr (.inl none)), (1, .inr (.inl (some l1))), (2, .inl l2)]) C d_C_blacken_35 3 rfl (by decide) (by decide) rfl ?_
          refine r_goto (tgt := 15) (pc := 38) C d_C_blacken_38 (by decide) ?_
          refine r_sub [2, 3, 0] rfl ?_
          exact ih (l3 + 1) μ h
        · intro y7 h0; subst h0; replace h := h.2 y7 rfl
          refine r_aload (pc := 30) C d_C_blacken_30 0 rfl ?_
          obtain ⟨o8, h⟩ := h
          refine r_cVv (pc := 32) (a' := 0) (b' := 0) (As := []) (ci := 5) C (c_I_turnGreyIfWhite C.s h) o_I_turnGreyIfWhite rfl (ok_O o8) (k_169 C.w) rfl ⟨by decide, by decide, by decide, by decide⟩ rfl rfl (Nat.le_of_ble_eq_true rfl) d_C_blacken_32 rfl ?_
          intro μ9 h
          refine r_iinc (pc := 35) (v := 1) (lv' := [(4, .inr (.inl (some y7))), (1, .inr (.inl (some l1))), (2, .inl l2)]) C d_C_blacken_35 3 rfl (by decide) (by decide) rfl ?_
          refine r_goto (tgt := 15) (pc := 38) C d_C_blacken_38 (by decide) ?_
          refine r_sub [2, 3, 0] rfl ?_
          exact ih (l3 + 1) μ9 h
  unfold wC_blacken at h
  refine r_aload_n (pc := 0) C d_C_blacken_0 rfl 0 rfl ?_
  refine r_iconst (pc := 1) C d_C_blacken_1 (v := 2) (by decide) ?_
  obtain ⟨o1, h⟩ := h
  refine r_putI (pc := 2) (ci := 5) C rfl 6 (by decide) (k_474 C.w) rfl rfl p_I (ok_O o1) d_C_blacken_2 ?_
  intro μ2 eμ2; replace h := h μ2 eμ2
  refine r_aload_n (pc := 5) C d_C_blacken_5 rfl 0 rfl ?_
  refine r_getR (pc := 6) (ci := 5) C rfl 2 (by decide) (k_466 C.w) rfl (ok_O (ok_s eμ2 o1)) d_C_blacken_6 ?_
  refine r_astore_n (pc := 9) (lv' := [(0, .inr (.inl (some a1)))]) C d_C_blacken_9 rfl (by decide) rfl ?_
  refine r_aload_n (pc := 10) C d_C_blacken_10 rfl 0 rfl ?_
  obtain ⟨o3, h⟩ := h
  refine r_alenQ (pc := 11) (v := nI (mL μ2 (a1 + 1))) C (ok_A o3) rfl d_C_blacken_11 ?_
  refine r_istore_n (pc := 12) (lv' := [(1, .inr (.inl (some (a1 + 1)))), (0, .inr (.inl (some a1)))]) C d_C_blacken_12 rfl (by decide) rfl ?_
  refine r_iconst (pc := 13) C d_C_blacken_13 (v := 0) (by decide) ?_
  refine r_istore_n (pc := 14) (lv' := [(2, .inl (nI (mL μ2 (a1 + 1)))), (1, .inr (.inl (some (a1 + 1)))), (0, .inr (.inl (some a1)))]) C d_C_blacken_14 rfl (by decide) rfl ?_
  obtain ⟨n12, h⟩ := h
  refine r_sub [2, 1, 0] rfl ?_
  refine L_15 (a1 + 1) (nI (mL μ2 (a1 + 1))) _ ?_ n12 0 μ2 h
  intro v11 μ10 h
  exact r_vret (pc := 41) C d_C_blacken_41 (by decide) (by decide) h
theorem c_C_blackenFirstGrey {l : Launch} (hl : l.stackTraces = false) {G : Gl} {post : Int32 → Mem → Prop} {μ : Mem} (h : wC_blackenFirstGrey post μ) : Ct l G i_C_blackenFirstGrey [.inr (.inl (some 0))] μ (poI post) noX := by
  refine ct_of hl (by decide) (Nat.le_of_ble_eq_true rfl) ?_
  intro K hKl C hE
  clear hl hKl
  replace C : Cx K G prog_1_method_29_code "LineCollector" 5 { frames := 4, cells := 0, slots := 0, locals := 84 } (some .boolean) (poI post) noX := C
  show Rn K G 5 0 [(0, .inr (.inl (some 0)))] [] μ 0 0
  have L_10 : ∀ (l2 : Int32) (k : Int32 → Mem → Prop), (∀ (v3 : Int32) (μ : Mem), k v3 μ → Rn K G 5 47 [] [] μ 0 0) → ∀ (n : Nat) (l3 : Int32) (μ : Mem), wC_blackenFirstGrey_10 l2 k post n l3 μ → Rn K G 5 10 [(1, .inr (.inl (some 3))), (2, .inl l2), (3, .inl l3)] [] μ 0 0 := by
    intro l2 k hk n
    induction n with
    | zero => intro l3 μ h; exact h.elim
    | succ n ih =>
      intro l3 μ h
      unfold wC_blackenFirstGrey_10 at h
      refine r_iload_n (pc := 10) C d_C_blackenFirstGrey_10 rfl 2 rfl ?_
      refine r_iload_n (pc := 11) C d_C_blackenFirstGrey_11 rfl 1 rfl ?_
      refine r_icmp_ge (tgt := 47) (pc := 12) C d_C_blackenFirstGrey_12 (by decide) ?_ ?_
      · intro hc; replace h := h.1 hc
        refine r_sub [] rfl ?_
        exact hk l3 μ h
      · intro hc; replace h := h.2 hc
        refine r_aload_n (pc := 15) C d_C_blackenFirstGrey_15 rfl 0 rfl ?_
        refine r_iload_n (pc := 16) C d_C_blackenFirstGrey_16 rfl 2 rfl ?_
        obtain ⟨b1, h⟩ := h
        refine r_aald (pc := 17) C (lay_A rfl) b1 d_C_blackenFirstGrey_17 ?_
        intro e2 he2; replace h := h e2 he2
        refine r_astore (pc := 18) (lv' := [(1, .inr (.inl (some 3))), (2, .inl l2), (3, .inl l3)]) C d_C_blackenFirstGrey_18 (by decide) rfl ?_
        refine r_aload (pc := 20) C d_C_blackenFirstGrey_20 0 rfl ?_
        refine r_ifnull (tgt := 41) (pc := 22) C d_C_blackenFirstGrey_22 (by decide) ?_ ?_
        · intro h0; subst h0; replace h := h.1 rfl
          refine r_iinc (pc := 41) (v := 1) (lv' := [(4, .inr (.inl none)), (1, .inr (.inl (some 3))), (2, .inl l2)]) C d_C_blackenFirstGrey_41 3 rfl (by decide) (by decide) rfl ?_
          refine r_goto (tgt := 10) (pc := 44) C d_C_blackenFirstGrey_44 (by decide) ?_
          refine r_sub [2, 3, 0] rfl ?_
          exact ih (l3 + 1) μ h
        · intro y3 h0; subst h0; replace h := h.2 y3 rfl
          refine r_aload (pc := 25) C d_C_blackenFirstGrey_25 0 rfl ?_
          obtain ⟨o4, h⟩ := h
          refine r_getI (pc := 27) (ci := 5) C rfl 6 (by decide) (k_474 C.w) rfl (ok_O o4) d_C_blackenFirstGrey_27 ?_
          refine r_iconst (pc := 30) C d_C_blackenFirstGrey_30 (v := 1) (by decide) ?_
          refine r_icmp_ne (tgt := 41) (pc := 31) C d_C_blackenFirstGrey_31 (by decide) ?_ ?_
          · intro hc; replace h := h.2 hc
            refine r_iinc (pc := 41) (v := 1) (lv' := [(4, .inr (.inl (some y3))), (1, .inr (.inl (some 3))), (2, .inl l2)]) C d_C_blackenFirstGrey_41 3 rfl (by decide) (by decide) rfl ?_
            refine r_goto (tgt := 10) (pc := 44) C d_C_blackenFirstGrey_44 (by decide) ?_
            refine r_sub [2, 3, 0] rfl ?_
            exact ih (l3 + 1) μ h
          · intro hc; replace h := h.1 hc
            refine r_aload (pc := 34) C d_C_blackenFirstGrey_34 0 rfl ?_
            refine r_cSv (pc := 36) (a' := 0) (b' := 0) (As := [.inr (.inl (some y3))]) C (c_C_blacken C.s h) o_C_blacken (k_436 C.w) rfl ⟨by decide, by decide, by decide, by decide⟩ rfl rfl (Nat.le_of_ble_eq_true rfl) d_C_blackenFirstGrey_36 rfl ?_
            intro μ5 h
            refine r_iconst (pc := 39) C d_C_blackenFirstGrey_39 (v := 1) (by decide) ?_
            exact r_zret (pc := 40) C (Or.inr rfl) d_C_blackenFirstGrey_40 (by decide) (by decide) h
  unfold wC_blackenFirstGrey at h
  refine r_aload_n (pc := 0) C d_C_blackenFirstGrey_0 rfl 0 rfl ?_
  refine r_getR (pc := 1) (ci := 0) C rfl 2 (by decide) (k_108 C.w) rfl (lay_O rfl) d_C_blackenFirstGrey_1 ?_
  refine r_astore_n (pc := 4) (lv' := [(0, .inr (.inl (some 0)))]) C d_C_blackenFirstGrey_4 rfl (by decide) rfl ?_
  refine r_aload_n (pc := 5) C d_C_blackenFirstGrey_5 rfl 0 rfl ?_
  refine r_alenQ (pc := 6) (v := 128) C (lay_A rfl) (by decide) d_C_blackenFirstGrey_6 ?_
  refine r_istore_n (pc := 7) (lv' := [(1, .inr (.inl (some 3))), (0, .inr (.inl (some 0)))]) C d_C_blackenFirstGrey_7 rfl (by decide) rfl ?_
  refine r_iconst (pc := 8) C d_C_blackenFirstGrey_8 (v := 0) (by decide) ?_
  refine r_istore_n (pc := 9) (lv' := [(2, .inl 128), (1, .inr (.inl (some 3))), (0, .inr (.inl (some 0)))]) C d_C_blackenFirstGrey_9 rfl (by decide) rfl ?_
  obtain ⟨n8, h⟩ := h
  refine r_sub [2, 1, 0] rfl ?_
  refine L_10 128 _ ?_ n8 0 μ h
  intro v7 μ6 h
  refine r_iconst (pc := 47) C d_C_blackenFirstGrey_47 (v := 0) (by decide) ?_
  exact r_zret (pc := 48) C (Or.inl rfl) d_C_blackenFirstGrey_48 (by decide) (by decide) h
theorem c_C_stepUpTo {l : Launch} (hl : l.stackTraces = false) {G : Gl} {a1 : Int32} {post : Mem → Prop} {μ : Mem} (h : wC_stepUpTo a1 post μ) : Ct l G i_C_stepUpTo [.inr (.inl (some 0)), .inl a1] μ (poV post) noX := by
  refine ct_of hl (by decide) (Nat.le_of_ble_eq_true rfl) ?_
  intro K hKl C hE
  clear hl hKl
  replace C : Cx K G prog_1_method_28_code "LineCollector" 4 { frames := 5, cells := 0, slots := 0, locals := 108 } (none) (poV post) noX := C
  show Rn K G 4 0 [(0, .inr (.inl (some 0))), (1, .inl a1)] [] μ 0 0
  have L_4 : ∀ (l1 : Int32) (k : Int32 → Int32 → Mem → Prop), (∀ (v2 : Int32) (v3 : Int32) (μ : Mem), k v2 v3 μ → Rn K G 4 24 [] [] μ 0 0) → ∀ (n : Nat) (l2 : Int32) (l3 : Int32) (μ : Mem), wC_stepUpTo_4 l1 k n l2 l3 μ → Rn K G 4 4 [(0, .inr (.inl (some 0))), (1, .inl l1), (2, .inl l2), (3, .inl l3)] [] μ 0 0 := by
    intro l1 k hk n
    induction n with
    | zero => intro l2 l3 μ h; exact h.elim
    | succ n ih =>
      intro l2 l3 μ h
      unfold wC_stepUpTo_4 at h
      refine r_iload_n (pc := 4) C d_C_stepUpTo_4 rfl 3 rfl ?_
      refine r_iload_n (pc := 5) C d_C_stepUpTo_5 rfl 1 rfl ?_
      refine r_icmp_ge (tgt := 24) (pc := 6) C d_C_stepUpTo_6 (by decide) ?_ ?_
      · intro hc; replace h := h.1 hc
        refine r_sub [] rfl ?_
        exact hk l2 l3 μ h
      · intro hc; replace h := h.2 hc
        refine r_iload_n (pc := 9) C d_C_stepUpTo_9 rfl 2 rfl ?_
        refine r_if_eq (tgt := 24) (pc := 10) C d_C_stepUpTo_10 (by decide) ?_ ?_
        · intro hc; replace h := h.1 hc
          refine r_sub [] rfl ?_
          exact hk l2 l3 μ h
        · intro hc; replace h := h.2 hc
          refine r_aload_n (pc := 13) C d_C_stepUpTo_13 rfl 0 rfl ?_
          refine r_cVi (pc := 14) (a' := 0) (b' := 0) (As := []) (ci := 0) C (c_C_blackenFirstGrey C.s h) o_C_blackenFirstGrey rfl (lay_O rfl) (k_432 C.w) rfl ⟨by decide, by decide, by decide, by decide⟩ rfl rfl (Nat.le_of_ble_eq_true rfl) d_C_stepUpTo_14 rfl ?_
          intro r2 μ1 h
          refine r_istore_n (pc := 17) (lv' := [(0, .inr (.inl (some 0))), (1, .inl l1), (3, .inl l3)]) C d_C_stepUpTo_17 rfl (by decide) rfl ?_
          refine r_iinc (pc := 18) (v := 1) (lv' := [(2, .inl r2), (0, .inr (.inl (some 0))), (1, .inl l1)]) C d_C_stepUpTo_18 3 rfl (by decide) (by decide) rfl ?_
          refine r_goto (tgt := 4) (pc := 21) C d_C_stepUpTo_21 (by decide) ?_
          refine r_sub [2, 3, 1, 0] rfl ?_
          exact ih r2 (l3 + 1) μ1 h
  unfold wC_stepUpTo at h
  refine r_iconst (pc := 0) C d_C_stepUpTo_0 (v := 1) (by decide) ?_
  refine r_istore_n (pc := 1) (lv' := [(0, .inr (.inl (some 0))), (1, .inl a1)]) C d_C_stepUpTo_1 rfl (by decide) rfl ?_
  refine r_iconst (pc := 2) C d_C_stepUpTo_2 (v := 0) (by decide) ?_
  refine r_istore_n (pc := 3) (lv' := [(2, .inl 1), (0, .inr (.inl (some 0))), (1, .inl a1)]) C d_C_stepUpTo_3 rfl (by decide) rfl ?_
  obtain ⟨n6, h⟩ := h
  refine r_sub [2, 3, 1, 0] rfl ?_
  refine L_4 a1 _ ?_ n6 1 0 μ h
  intro v4 v5 μ3 h
  exact r_vret (pc := 24) C d_C_stepUpTo_24 (by decide) (by decide) h
theorem c_C_collect {l : Launch} (hl : l.stackTraces = false) {G : Gl} {post : Mem → Prop} {μ : Mem} (h : wC_collect post μ) : Ct l G i_C_collect [.inr (.inl (some 0))] μ (poV post) noX := by
  refine ct_of hl (by decide) (Nat.le_of_ble_eq_true rfl) ?_
  intro K hKl C hE
  clear hl hKl
  replace C : Cx K G prog_1_method_25_code "LineCollector" 1 { frames := 6, cells := 0, slots := 0, locals := 133 } (none) (poV post) noX := C
  show Rn K G 1 0 [(0, .inr (.inl (some 0)))] [] μ 0 0
  unfold wC_collect at h
  refine r_aload_n (pc := 0) C d_C_collect_0 rfl 0 rfl ?_
  refine r_iconst (pc := 1) C d_C_collect_1 (v := 1) (by decide) ?_
  refine r_cVi (pc := 2) (a' := 0) (b' := 0) (As := [.inl 1]) (ci := 0) C (c_C_pause C.s h) o_C_pause rfl (lay_O rfl) (k_427 C.w) rfl ⟨by decide, by decide, by decide, by decide⟩ rfl rfl (Nat.le_of_ble_eq_true rfl) d_C_collect_2 rfl ?_
  intro r2 μ1 h
  refine r_popI (pc := 5) C d_C_collect_5 ?_
  refine r_aload_n (pc := 6) C d_C_collect_6 rfl 0 rfl ?_
  refine r_ldc (pc := 7) C (k_144 C.w) d_C_collect_7 ?_
  refine r_cVv (pc := 9) (a' := 0) (b' := 0) (As := [.inl 1000000]) (ci := 0) C (c_C_stepUpTo C.s h) o_C_stepUpTo rfl (lay_O rfl) (k_428 C.w) rfl ⟨by decide, by decide, by decide, by decide⟩ rfl rfl (Nat.le_of_ble_eq_true rfl) d_C_collect_9 rfl ?_
  intro μ3 h
  refine r_aload_n (pc := 12) C d_C_collect_12 rfl 0 rfl ?_
  refine r_iconst (pc := 13) C d_C_collect_13 (v := 0) (by decide) ?_
  refine r_cVi (pc := 14) (a' := 0) (b' := 0) (As := [.inl 0]) (ci := 0) C (c_C_pause C.s h) o_C_pause rfl (lay_O rfl) (k_427 C.w) rfl ⟨by decide, by decide, by decide, by decide⟩ rfl rfl (Nat.le_of_ble_eq_true rfl) d_C_collect_14 rfl ?_
  intro r5 μ4 h
  refine r_popI (pc := 17) C d_C_collect_17 ?_
  refine r_aload_n (pc := 18) C d_C_collect_18 rfl 0 rfl ?_
  refine r_ldc (pc := 19) C (k_144 C.w) d_C_collect_19 ?_
  refine r_cVv (pc := 21) (a' := 0) (b' := 0) (As := [.inl 1000000]) (ci := 0) C (c_C_drainUpTo C.s h) o_C_drainUpTo rfl (lay_O rfl) (k_145 C.w) rfl ⟨by decide, by decide, by decide, by decide⟩ rfl rfl (Nat.le_of_ble_eq_true rfl) d_C_collect_21 rfl ?_
  intro μ6 h
  exact r_vret (pc := 24) C d_C_collect_24 (by decide) (by decide) h
theorem c_C_drop {l : Launch} (hl : l.stackTraces = false) {G : Gl} {a1 : Int32} {pe : Nat → Mem → Prop} {post : Mem → Prop} {μ : Mem} (h : wC_drop a1 pe post μ) : Ct l G i_C_drop [.inr (.inl (some 0)), .inl a1] μ (poV post) pe := by
  refine ct_of hl (by decide) (Nat.le_of_ble_eq_true rfl) ?_
  intro K hKl C hE
  clear hl hKl
  replace C : Cx K G prog_1_method_3_code "LineCollector" 2 { frames := 6, cells := 1, slots := 6, locals := 81 } (none) (poV post) pe := C
  show Rn K G 2 0 [(0, .inr (.inl (some 0))), (1, .inl a1)] [] μ 0 0
  unfold wC_drop at h
  refine r_iload_n (pc := 0) C d_C_drop_0 rfl 1 rfl ?_
  refine r_cSi (pc := 1) (a' := 0) (b' := 0) (As := [.inl a1]) C (c_C_isRoot C.s h) o_C_isRoot (k_355 C.w) rfl ⟨by decide, by decide, by decide, by decide⟩ rfl rfl (Nat.le_of_ble_eq_true rfl) d_C_drop_1 rfl ?_
  intro r2 μ1 h
  refine r_if_ne (tgt := 15) (pc := 4) C d_C_drop_4 (by decide) ?_ ?_
  · intro hc; replace h := h.2 hc
    refine r_aload_n (pc := 15) C d_C_drop_15 rfl 0 rfl ?_
    refine r_getR (pc := 16) (ci := 0) C rfl 0 (by decide) (k_106 C.w) rfl (lay_O rfl) d_C_drop_16 ?_
    refine r_iload_n (pc := 19) C d_C_drop_19 rfl 1 rfl ?_
    refine r_null (pc := 20) C d_C_drop_20 ?_
    obtain ⟨b3, h⟩ := h
    refine r_aast (pc := 21) C (lay_A rfl) b3 d_C_drop_21 (fun y hy => by cases hy) ?_
    intro μ4 eμ4; replace h := h μ4 eμ4
    exact r_vret (pc := 22) C d_C_drop_22 (by decide) (by decide) h
  · intro hc; replace h := h.1 hc
    exact r_throw (pc := 7) C hE (q := 7) rfl (by decide +kernel) (k_358 C.w) x_ins7 x_ini7 (x_C_51) d_C_drop_7 d_C_drop_10 d_C_drop_11 d_C_drop_14 ⟨by decide, by decide, by decide, by decide⟩ h
theorem c_C_copy {l : Launch} (hl : l.stackTraces = false) {G : Gl} {a1 : Int32} {a2 : Int32} {pe : Nat → Mem → Prop} {post : Mem → Prop} {μ : Mem} (h : wC_copy a1 a2 pe post μ) : Ct l G i_C_copy [.inr (.inl (some 0)), .inl a1, .inl a2] μ (poV post) pe := by
  refine ct_of hl (by decide) (Nat.le_of_ble_eq_true rfl) ?_
  intro K hKl C hE
  clear hl hKl
  replace C : Cx K G prog_1_method_4_code "LineCollector" 3 { frames := 6, cells := 1, slots := 6, locals := 81 } (none) (poV post) pe := C
  show Rn K G 3 0 [(0, .inr (.inl (some 0))), (1, .inl a1), (2, .inl a2)] [] μ 0 0
  unfold wC_copy at h
  refine r_iload_n (pc := 0) C d_C_copy_0 rfl 1 rfl ?_
  refine r_cSi (pc := 1) (a' := 0) (b' := 0) (As := [.inl a1]) C (c_C_isRoot C.s h) o_C_isRoot (k_355 C.w) rfl ⟨by decide, by decide, by decide, by decide⟩ rfl rfl (Nat.le_of_ble_eq_true rfl) d_C_copy_1 rfl ?_
  intro r2 μ1 h
  refine r_if_eq (tgt := 14) (pc := 4) C d_C_copy_4 (by decide) ?_ ?_
  · intro hc; replace h := h.1 hc
    exact r_throw (pc := 14) C hE (q := 7) rfl (by decide +kernel) (k_358 C.w) x_ins7 x_ini7 (x_C_51) d_C_copy_14 d_C_copy_17 d_C_copy_18 d_C_copy_21 ⟨by decide, by decide, by decide, by decide⟩ h
  · intro hc; replace h := h.2 hc
    refine r_iload_n (pc := 7) C d_C_copy_7 rfl 2 rfl ?_
    refine r_cSi (pc := 8) (a' := 0) (b' := 0) (As := [.inl a2]) C (c_C_isRoot C.s h) o_C_isRoot (k_355 C.w) rfl ⟨by decide, by decide, by decide, by decide⟩ rfl rfl (Nat.le_of_ble_eq_true rfl) d_C_copy_8 rfl ?_
    intro r4 μ3 h
    refine r_if_ne (tgt := 22) (pc := 11) C d_C_copy_11 (by decide) ?_ ?_
    · intro hc; replace h := h.2 hc
      refine r_aload_n (pc := 22) C d_C_copy_22 rfl 0 rfl ?_
      refine r_getR (pc := 23) (ci := 0) C rfl 0 (by decide) (k_106 C.w) rfl (lay_O rfl) d_C_copy_23 ?_
      refine r_iload_n (pc := 26) C d_C_copy_26 rfl 1 rfl ?_
      refine r_aload_n (pc := 27) C d_C_copy_27 rfl 0 rfl ?_
      refine r_getR (pc := 28) (ci := 0) C rfl 0 (by decide) (k_106 C.w) rfl (lay_O rfl) d_C_copy_28 ?_
      refine r_iload_n (pc := 31) C d_C_copy_31 rfl 2 rfl ?_
      obtain ⟨b5, h⟩ := h
      refine r_aald (pc := 32) C (lay_A rfl) b5 d_C_copy_32 ?_
      intro e6 he6; replace h := h e6 he6
      obtain ⟨b7, h⟩ := h
      obtain ⟨o9, h⟩ := h
      refine r_aast (pc := 33) C (lay_A rfl) b7 d_C_copy_33 o9 ?_
      intro μ8 eμ8; replace h := h μ8 eμ8
      exact r_vret (pc := 34) C d_C_copy_34 (by decide) (by decide) h
    · intro hc; replace h := h.1 hc
      exact r_throw (pc := 14) C hE (q := 7) rfl (by decide +kernel) (k_358 C.w) x_ins7 x_ini7 (x_C_51) d_C_copy_14 d_C_copy_17 d_C_copy_18 d_C_copy_21 ⟨by decide, by decide, by decide, by decide⟩ h
theorem c_I_hasField {l : Launch} (hl : l.stackTraces = false) {G : Gl} {x : Nat} {a1 : Int32} {post : Int32 → Mem → Prop} {μ : Mem} (h : wI_hasField x a1 post μ) : Ct l G i_I_hasField [.inr (.inl (some x)), .inl a1] μ (poI post) noX := by
  refine ct_of hl (by decide) (Nat.le_of_ble_eq_true rfl) ?_
  intro K hKl C hE
  clear hl hKl
  replace C : Cx K G prog_2_method_2_code "LineCollector$Item" 2 { frames := 0, cells := 0, slots := 0, locals := 0 } (some .boolean) (poI post) noX := C
  show Rn K G 2 0 [(0, .inr (.inl (some x))), (1, .inl a1)] [] μ 0 0
  unfold wI_hasField at h
  refine r_iload_n (pc := 0) C d_I_hasField_0 rfl 1 rfl ?_
  refine r_if_lt (tgt := 16) (pc := 1) C d_I_hasField_1 (by decide) ?_ ?_
  · intro hc; replace h := h.1 hc
    refine r_iconst (pc := 16) C d_I_hasField_16 (v := 0) (by decide) ?_
    exact r_zret (pc := 17) C (Or.inl rfl) d_I_hasField_17 (by decide) (by decide) h
  · intro hc; replace h := h.2 hc
    refine r_iload_n (pc := 4) C d_I_hasField_4 rfl 1 rfl ?_
    refine r_aload_n (pc := 5) C d_I_hasField_5 rfl 0 rfl ?_
    obtain ⟨o1, h⟩ := h
    refine r_getI (pc := 6) (ci := 5) C rfl 0 (by decide) (k_460 C.w) rfl (ok_O o1) d_I_hasField_6 ?_
    refine r_icmp_ge (tgt := 16) (pc := 9) C d_I_hasField_9 (by decide) ?_ ?_
    · intro hc; replace h := h.1 hc
      refine r_iconst (pc := 16) C d_I_hasField_16 (v := 0) (by decide) ?_
      exact r_zret (pc := 17) C (Or.inl rfl) d_I_hasField_17 (by decide) (by decide) h
    · intro hc; replace h := h.2 hc
      refine r_iconst (pc := 12) C d_I_hasField_12 (v := 1) (by decide) ?_
      refine r_goto (tgt := 17) (pc := 13) C d_I_hasField_13 (by decide) ?_
      exact r_zret (pc := 17) C (Or.inr rfl) d_I_hasField_17 (by decide) (by decide) h
theorem c_C_itemWithField {l : Launch} (hl : l.stackTraces = false) {G : Gl} {a1 : Int32} {a2 : Int32} {a3 : Int32} {pe : Nat → Mem → Prop} {post : Nat → Mem → Prop} {μ : Mem} (h : wC_itemWithField a1 a2 a3 pe post μ) : Ct l G i_C_itemWithField [.inr (.inl (some 0)), .inl a1, .inl a2, .inl a3] μ (poQ G (fun e μ => ∃ y, e = some y ∧ post y μ)) pe := by
  refine ct_of hl (by decide) (Nat.le_of_ble_eq_true rfl) ?_
  intro K hKl C hE
  clear hl hKl
  replace C : Cx K G prog_1_method_16_code "LineCollector" 5 { frames := 6, cells := 1, slots := 6, locals := 81 } (some (.object "LineCollector$Item")) (poQ G (fun e μ => ∃ y, e = some y ∧ post y μ)) pe := C
  show Rn K G 5 0 [(0, .inr (.inl (some 0))), (1, .inl a1), (2, .inl a2), (3, .inl a3)] [] μ 0 0
  unfold wC_itemWithField at h
  refine r_iload_n (pc := 0) C d_C_itemWithField_0 rfl 1 rfl ?_
  refine r_cSi (pc := 1) (a' := 0) (b' := 0) (As := [.inl a1]) C (c_C_isRoot C.s h) o_C_isRoot (k_355 C.w) rfl ⟨by decide, by decide, by decide, by decide⟩ rfl rfl (Nat.le_of_ble_eq_true rfl) d_C_itemWithField_1 rfl ?_
  intro r2 μ1 h
  refine r_if_eq (tgt := 14) (pc := 4) C d_C_itemWithField_4 (by decide) ?_ ?_
  · intro hc; replace h := h.1 hc
    exact r_throw (pc := 14) C hE (q := 7) rfl (by decide +kernel) (k_358 C.w) x_ins7 x_ini7 (x_C_51) d_C_itemWithField_14 d_C_itemWithField_17 d_C_itemWithField_18 d_C_itemWithField_21 ⟨by decide, by decide, by decide, by decide⟩ h
  · intro hc; replace h := h.2 hc
    refine r_iload_n (pc := 7) C d_C_itemWithField_7 rfl 3 rfl ?_
    refine r_cSi (pc := 8) (a' := 0) (b' := 0) (As := [.inl a3]) C (c_C_isRoot C.s h) o_C_isRoot (k_355 C.w) rfl ⟨by decide, by decide, by decide, by decide⟩ rfl rfl (Nat.le_of_ble_eq_true rfl) d_C_itemWithField_8 rfl ?_
    intro r4 μ3 h
    refine r_if_ne (tgt := 22) (pc := 11) C d_C_itemWithField_11 (by decide) ?_ ?_
    · intro hc; replace h := h.2 hc
      refine r_aload_n (pc := 22) C d_C_itemWithField_22 rfl 0 rfl ?_
      refine r_getR (pc := 23) (ci := 0) C rfl 0 (by decide) (k_106 C.w) rfl (lay_O rfl) d_C_itemWithField_23 ?_
      refine r_iload_n (pc := 26) C d_C_itemWithField_26 rfl 1 rfl ?_
      obtain ⟨b5, h⟩ := h
      refine r_aald (pc := 27) C (lay_A rfl) b5 d_C_itemWithField_27 ?_
      intro e6 he6; replace h := h e6 he6
      refine r_astore (pc := 28) (lv' := [(0, .inr (.inl (some 0))), (1, .inl a1), (2, .inl a2), (3, .inl a3)]) C d_C_itemWithField_28 (by decide) rfl ?_
      refine r_aload (pc := 30) C d_C_itemWithField_30 0 rfl ?_
      refine r_ifnonnull (tgt := 43) (pc := 32) C d_C_itemWithField_32 (by decide) ?_ ?_
      · intro y7 h0; subst h0; replace h := h.2 y7 rfl
        refine r_aload (pc := 43) C d_C_itemWithField_43 0 rfl ?_
        refine r_iload_n (pc := 45) C d_C_itemWithField_45 rfl 3 rfl ?_
        obtain ⟨o8, h⟩ := h
        refine r_cVi (pc := 46) (a' := 0) (b' := 0) (As := [.inl a2]) (ci := 5) C (c_I_hasField C.s h) o_I_hasField rfl (ok_O o8) (k_532 C.w) rfl ⟨by decide, by decide, by decide, by decide⟩ rfl rfl (Nat.le_of_ble_eq_true rfl) d_C_itemWithField_46 rfl ?_
        intro r10 μ9 h
        refine r_if_ne (tgt := 60) (pc := 49) C d_C_itemWithField_49 (by decide) ?_ ?_
        · intro hc; replace h := h.2 hc
          refine r_aload (pc := 60) C d_C_itemWithField_60 0 rfl ?_
          exact r_aret (pc := 62) C d_C_itemWithField_62 (by decide) (by decide) ⟨_, rfl, h⟩
        · intro hc; replace h := h.1 hc
          exact r_throw (pc := 52) C hE (q := 9) rfl (by decide +kernel) (k_536 C.w) x_ins9 x_ini9 (x_C_159) d_C_itemWithField_52 d_C_itemWithField_55 d_C_itemWithField_56 d_C_itemWithField_59 ⟨by decide, by decide, by decide, by decide⟩ h
      · intro h0; subst h0; replace h := h.1 rfl
        exact r_throw (pc := 35) C hE (q := 8) rfl (by decide +kernel) (k_517 C.w) x_ins8 x_ini8 (x_C_105) d_C_itemWithField_35 d_C_itemWithField_38 d_C_itemWithField_39 d_C_itemWithField_42 ⟨by decide, by decide, by decide, by decide⟩ h
    · intro hc; replace h := h.1 hc
      exact r_throw (pc := 14) C hE (q := 7) rfl (by decide +kernel) (k_358 C.w) x_ins7 x_ini7 (x_C_51) d_C_itemWithField_14 d_C_itemWithField_17 d_C_itemWithField_18 d_C_itemWithField_21 ⟨by decide, by decide, by decide, by decide⟩ h
theorem c_C_addressOf {l : Launch} (hl : l.stackTraces = false) {G : Gl} {a1 : Option Nat} {post : Int32 → Mem → Prop} {μ : Mem} (h : wC_addressOf a1 post μ) : Ct l G i_C_addressOf [.inr (.inl a1)] μ (poI post) noX := by
  refine ct_of hl (by decide) (Nat.le_of_ble_eq_true rfl) ?_
  intro K hKl C hE
  clear hl hKl
  replace C : Cx K G prog_1_method_17_code "LineCollector" 1 { frames := 0, cells := 0, slots := 0, locals := 0 } (some .int) (poI post) noX := C
  show Rn K G 1 0 [(0, .inr (.inl a1))] [] μ 0 0
  unfold wC_addressOf at h
  refine r_aload_n (pc := 0) C d_C_addressOf_0 rfl 0 rfl ?_
  refine r_ifnonnull (tgt := 8) (pc := 1) C d_C_addressOf_1 (by decide) ?_ ?_
  · intro y1 h0; subst h0; replace h := h.2 y1 rfl
    refine r_aload_n (pc := 8) C d_C_addressOf_8 rfl 0 rfl ?_
    obtain ⟨o2, h⟩ := h
    refine r_getI (pc := 9) (ci := 5) C rfl 4 (by decide) (k_470 C.w) rfl (ok_O o2) d_C_addressOf_9 ?_
    exact r_iret (pc := 12) C d_C_addressOf_12 (by decide) (by decide) h
  · intro h0; subst h0; replace h := h.1 rfl
    refine r_iconst (pc := 4) C d_C_addressOf_4 (v := (-1)) (by decide) ?_
    refine r_goto (tgt := 12) (pc := 5) C d_C_addressOf_5 (by decide) ?_
    exact r_iret (pc := 12) C d_C_addressOf_12 (by decide) (by decide) h
theorem c_C_load {l : Launch} (hl : l.stackTraces = false) {G : Gl} {a1 : Int32} {a2 : Int32} {a3 : Int32} {pe : Nat → Mem → Prop} {post : Int32 → Mem → Prop} {μ : Mem} (h : wC_load a1 a2 a3 pe post μ) : Ct l G i_C_load [.inr (.inl (some 0)), .inl a1, .inl a2, .inl a3] μ (poI post) pe := by
  refine ct_of hl (by decide) (Nat.le_of_ble_eq_true rfl) ?_
  intro K hKl C hE
  clear hl hKl
  replace C : Cx K G prog_1_method_5_code "LineCollector" 5 { frames := 7, cells := 1, slots := 6, locals := 105 } (some .int) (poI post) pe := C
  show Rn K G 5 0 [(0, .inr (.inl (some 0))), (1, .inl a1), (2, .inl a2), (3, .inl a3)] [] μ 0 0
  unfold wC_load at h
  refine r_aload_n (pc := 0) C d_C_load_0 rfl 0 rfl ?_
  refine r_iload_n (pc := 1) C d_C_load_1 rfl 2 rfl ?_
  refine r_iload_n (pc := 2) C d_C_load_2 rfl 3 rfl ?_
  refine r_iload_n (pc := 3) C d_C_load_3 rfl 1 rfl ?_
  refine r_cVtq (pc := 4) (a' := 1) (b' := 6) (As := [.inl a2, .inl a3, .inl a1]) (ci := 0) C hE (c_C_itemWithField C.s h) o_C_itemWithField rfl (lay_O rfl) (k_513 C.w) rfl ⟨by decide, by decide, by decide, by decide⟩ rfl rfl (Nat.le_of_ble_eq_true rfl) d_C_load_4 rfl ?_
  rintro _ μ1 ⟨y2, rfl, h⟩
  refine r_astore (pc := 7) (lv' := [(0, .inr (.inl (some 0))), (1, .inl a1), (2, .inl a2), (3, .inl a3)]) C d_C_load_7 (by decide) rfl ?_
  refine r_aload_n (pc := 9) C d_C_load_9 rfl 1 rfl ?_
  refine r_getR (pc := 10) (ci := 0) C rfl 0 (by decide) (k_106 C.w) rfl (lay_O rfl) d_C_load_10 ?_
  refine r_iload_n (pc := 13) C d_C_load_13 rfl 2 rfl ?_
  refine r_aload (pc := 14) C d_C_load_14 0 rfl ?_
  obtain ⟨o3, h⟩ := h
  refine r_getR (pc := 16) (ci := 5) C rfl 2 (by decide) (k_466 C.w) rfl (ok_O o3) d_C_load_16 ?_
  refine r_iload_n (pc := 19) C d_C_load_19 rfl 4 rfl ?_
  obtain ⟨o4, h⟩ := h
  obtain ⟨b5, h⟩ := h
  refine r_aald (pc := 20) C (ok_A o4) b5 d_C_load_20 ?_
  intro e6 he6; replace h := h e6 he6
  obtain ⟨b7, h⟩ := h
  obtain ⟨o9, h⟩ := h
  refine r_aast (pc := 21) C (lay_A rfl) b7 d_C_load_21 o9 ?_
  intro μ8 eμ8; replace h := h μ8 eμ8
  refine r_aload_n (pc := 22) C d_C_load_22 rfl 1 rfl ?_
  refine r_getR (pc := 23) (ci := 0) C rfl 0 (by decide) (k_106 C.w) rfl (lay_O rfl) d_C_load_23 ?_
  refine r_iload_n (pc := 26) C d_C_load_26 rfl 2 rfl ?_
  refine r_aald (pc := 27) C (lay_A rfl) b7 d_C_load_27 ?_
  intro e10 he10; replace h := h e10 he10
  refine r_cSi (pc := 28) (a' := 1) (b' := 6) (As := [.inr (.inl e10)]) C (c_C_addressOf C.s h) o_C_addressOf (k_551 C.w) rfl ⟨by decide, by decide, by decide, by decide⟩ rfl rfl (Nat.le_of_ble_eq_true rfl) d_C_load_28 rfl ?_
  intro r12 μ11 h
  exact r_iret (pc := 31) C d_C_load_31 (by decide) (by decide) h
theorem c_G_add {l : Launch} (hl : l.stackTraces = false) {G : Gl} {a1 : Nat} {a2 : Int32} {post : Mem → Prop} {μ : Mem} (h : wG_add a1 a2 post μ) : Ct l G i_G_add [.inr (.inl (some 9)), .inr (.inl (some a1)), .inl a2] μ (poV post) noX := by
  refine ct_of hl (by decide) (Nat.le_of_ble_eq_true rfl) ?_
  intro K hKl C hE
  clear hl hKl
  replace C : Cx K G prog_3_method_2_code "LineCollector$Log" 3 { frames := 0, cells := 0, slots := 0, locals := 0 } (none) (poV post) noX := C
  show Rn K G 3 0 [(0, .inr (.inl (some 9))), (1, .inr (.inl (some a1))), (2, .inl a2)] [] μ 0 0
  unfold wG_add at h
  refine r_aload_n (pc := 0) C d_G_add_0 rfl 0 rfl ?_
  refine r_getI (pc := 1) (ci := 3) C rfl 3 (by decide) (k_77 C.w) rfl (lay_O rfl) d_G_add_1 ?_
  refine r_sipush (pc := 4) C d_G_add_4 (v := 128) (by decide) ?_
  refine r_icmp_ge (tgt := 62) (pc := 7) C d_G_add_7 (by decide) ?_ ?_
  · intro hc; replace h := h.1 hc
    exact r_vret (pc := 62) C d_G_add_62 (by decide) (by decide) h
  · intro hc; replace h := h.2 hc
    refine r_aload_n (pc := 10) C d_G_add_10 rfl 0 rfl ?_
    refine r_getR (pc := 11) (ci := 3) C rfl 0 (by decide) (k_74 C.w) rfl (lay_O rfl) d_G_add_11 ?_
    refine r_aload_n (pc := 14) C d_G_add_14 rfl 0 rfl ?_
    refine r_getI (pc := 15) (ci := 3) C rfl 3 (by decide) (k_77 C.w) rfl (lay_O rfl) d_G_add_15 ?_
    refine r_aload_n (pc := 18) C d_G_add_18 rfl 1 rfl ?_
    obtain ⟨b1, h⟩ := h
    obtain ⟨o3, h⟩ := h
    refine r_aast (pc := 19) C (lay_A rfl) b1 d_G_add_19 (fun y hy => by cases hy; exact o3) ?_
    intro μ2 eμ2; replace h := h μ2 eμ2
    refine r_aload_n (pc := 20) C d_G_add_20 rfl 0 rfl ?_
    refine r_getR (pc := 21) (ci := 3) C rfl 1 (by decide) (k_75 C.w) rfl (lay_O rfl) d_G_add_21 ?_
    refine r_aload_n (pc := 24) C d_G_add_24 rfl 0 rfl ?_
    refine r_getI (pc := 25) (ci := 3) C rfl 3 (by decide) (k_77 C.w) rfl (lay_O rfl) d_G_add_25 ?_
    refine r_iload_n (pc := 28) C d_G_add_28 rfl 2 rfl ?_
    obtain ⟨b4, h⟩ := h
    refine r_iast (pc := 29) C (lay_A rfl) b4 d_G_add_29 ?_
    intro μ5 eμ5; replace h := h μ5 eμ5
    refine r_aload_n (pc := 30) C d_G_add_30 rfl 0 rfl ?_
    refine r_getR (pc := 31) (ci := 3) C rfl 2 (by decide) (k_76 C.w) rfl (lay_O rfl) d_G_add_31 ?_
    refine r_aload_n (pc := 34) C d_G_add_34 rfl 0 rfl ?_
    refine r_getI (pc := 35) (ci := 3) C rfl 3 (by decide) (k_77 C.w) rfl (lay_O rfl) d_G_add_35 ?_
    refine r_aload_n (pc := 38) C d_G_add_38 rfl 1 rfl ?_
    refine r_getR (pc := 39) (ci := 5) C rfl 2 (by decide) (k_465 C.w) rfl (ok_O (ok_s eμ5 (ok_t eμ2 o3))) d_G_add_39 ?_
    refine r_iload_n (pc := 42) C d_G_add_42 rfl 2 rfl ?_
    obtain ⟨o6, h⟩ := h
    obtain ⟨b7, h⟩ := h
    refine r_aald (pc := 43) C (ok_A o6) b7 d_G_add_43 ?_
    intro e8 he8; replace h := h e8 he8
    obtain ⟨b9, h⟩ := h
    obtain ⟨o11, h⟩ := h
    refine r_aast (pc := 44) C (lay_A rfl) b9 d_G_add_44 o11 ?_
    intro μ10 eμ10; replace h := h μ10 eμ10
    refine r_aload_n (pc := 45) C d_G_add_45 rfl 1 rfl ?_
    refine r_getR (pc := 46) (ci := 5) C rfl 3 (by decide) (k_468 C.w) rfl (ok_O (ok_t eμ10 (ok_s eμ5 (ok_t eμ2 o3)))) d_G_add_46 ?_
    refine r_iload_n (pc := 49) C d_G_add_49 rfl 2 rfl ?_
    refine r_iconst (pc := 50) C d_G_add_50 (v := 1) (by decide) ?_
    obtain ⟨o12, h⟩ := h
    obtain ⟨b13, h⟩ := h
    refine r_zast (pc := 51) C (ok_A o12) b13 d_G_add_51 (Or.inr rfl) ?_
    intro μ14 eμ14; replace h := h μ14 eμ14
    refine r_aload_n (pc := 52) C d_G_add_52 rfl 0 rfl ?_
    refine r_dupR (pc := 53) C d_G_add_53 ?_
    refine r_getI (pc := 54) (ci := 3) C rfl 3 (by decide) (k_77 C.w) rfl (lay_O rfl) d_G_add_54 ?_
    refine r_iconst (pc := 57) C d_G_add_57 (v := 1) (by decide) ?_
    refine r_iadd (pc := 58) C d_G_add_58 ?_
    refine r_putI (pc := 59) (ci := 3) C rfl 3 (by decide) (k_77 C.w) rfl rfl p_I (lay_O rfl) d_G_add_59 ?_
    intro μ15 eμ15; replace h := h μ15 eμ15
    exact r_vret (pc := 62) C d_G_add_62 (by decide) (by decide) h
theorem c_C_store {l : Launch} (hl : l.stackTraces = false) {G : Gl} {a1 : Int32} {a2 : Int32} {a3 : Int32} {pe : Nat → Mem → Prop} {post : Mem → Prop} {μ : Mem} (h : wC_store a1 a2 a3 pe post μ) : Ct l G i_C_store [.inr (.inl (some 0)), .inl a1, .inl a2, .inl a3] μ (poV post) pe := by
  refine ct_of hl (by decide) (Nat.le_of_ble_eq_true rfl) ?_
  intro K hKl C hE
  clear hl hKl
  replace C : Cx K G prog_1_method_6_code "LineCollector" 5 { frames := 7, cells := 1, slots := 6, locals := 105 } (none) (poV post) pe := C
  show Rn K G 5 0 [(0, .inr (.inl (some 0))), (1, .inl a1), (2, .inl a2), (3, .inl a3)] [] μ 0 0
  unfold wC_store at h
  refine r_aload_n (pc := 0) C d_C_store_0 rfl 0 rfl ?_
  refine r_iload_n (pc := 1) C d_C_store_1 rfl 1 rfl ?_
  refine r_iload_n (pc := 2) C d_C_store_2 rfl 2 rfl ?_
  refine r_iload_n (pc := 3) C d_C_store_3 rfl 3 rfl ?_
  refine r_cVtq (pc := 4) (a' := 1) (b' := 6) (As := [.inl a1, .inl a2, .inl a3]) (ci := 0) C hE (c_C_itemWithField C.s h) o_C_itemWithField rfl (lay_O rfl) (k_513 C.w) rfl ⟨by decide, by decide, by decide, by decide⟩ rfl rfl (Nat.le_of_ble_eq_true rfl) d_C_store_4 rfl ?_
  rintro _ μ1 ⟨y2, rfl, h⟩
  refine r_astore (pc := 7) (lv' := [(0, .inr (.inl (some 0))), (1, .inl a1), (2, .inl a2), (3, .inl a3)]) C d_C_store_7 (by decide) rfl ?_
  refine r_aload (pc := 9) C d_C_store_9 0 rfl ?_
  obtain ⟨o3, h⟩ := h
  refine r_cVi (pc := 11) (a' := 1) (b' := 6) (As := []) (ci := 5) C (c_I_isOld C.s h) o_I_isOld rfl (ok_O o3) (k_209 C.w) rfl ⟨by decide, by decide, by decide, by decide⟩ rfl rfl (Nat.le_of_ble_eq_true rfl) d_C_store_11 rfl ?_
  intro r5 μ4 h
  refine r_if_eq (tgt := 37) (pc := 14) C d_C_store_14 (by decide) ?_ ?_
  · intro hc; replace h := h.1 hc
    refine r_aload (pc := 37) C d_C_store_37 0 rfl ?_
    obtain ⟨o6, h⟩ := h
    refine r_getR (pc := 39) (ci := 5) C rfl 2 (by decide) (k_466 C.w) rfl (ok_O o6) d_C_store_39 ?_
    refine r_iload_n (pc := 42) C d_C_store_42 rfl 3 rfl ?_
    refine r_aload_n (pc := 43) C d_C_store_43 rfl 1 rfl ?_
    refine r_getR (pc := 44) (ci := 0) C rfl 0 (by decide) (k_106 C.w) rfl (lay_O rfl) d_C_store_44 ?_
    refine r_iload_n (pc := 47) C d_C_store_47 rfl 4 rfl ?_
    obtain ⟨b7, h⟩ := h
    refine r_aald (pc := 48) C (lay_A rfl) b7 d_C_store_48 ?_
    intro e8 he8; replace h := h e8 he8
    obtain ⟨o9, h⟩ := h
    obtain ⟨b10, h⟩ := h
    obtain ⟨o12, h⟩ := h
    refine r_aast (pc := 49) C (ok_A o9) b10 d_C_store_49 o12 ?_
    intro μ11 eμ11; replace h := h μ11 eμ11
    exact r_vret (pc := 50) C d_C_store_50 (by decide) (by decide) h
  · intro hc; replace h := h.2 hc
    refine r_aload (pc := 17) C d_C_store_17 0 rfl ?_
    obtain ⟨o13, h⟩ := h
    refine r_getR (pc := 19) (ci := 5) C rfl 3 (by decide) (k_469 C.w) rfl (ok_O o13) d_C_store_19 ?_
    refine r_iload_n (pc := 22) C d_C_store_22 rfl 3 rfl ?_
    obtain ⟨o14, h⟩ := h
    obtain ⟨b15, h⟩ := h
    refine r_zald (pc := 23) C (ok_A o14) b15 d_C_store_23 ?_
    refine r_if_ne (tgt := 37) (pc := 24) C d_C_store_24 (by decide) ?_ ?_
    · intro hc; replace h := h.2 hc
      refine r_aload (pc := 37) C d_C_store_37 0 rfl ?_
      refine r_getR (pc := 39) (ci := 5) C rfl 2 (by decide) (k_466 C.w) rfl (ok_O o13) d_C_store_39 ?_
      refine r_iload_n (pc := 42) C d_C_store_42 rfl 3 rfl ?_
      refine r_aload_n (pc := 43) C d_C_store_43 rfl 1 rfl ?_
      refine r_getR (pc := 44) (ci := 0) C rfl 0 (by decide) (k_106 C.w) rfl (lay_O rfl) d_C_store_44 ?_
      refine r_iload_n (pc := 47) C d_C_store_47 rfl 4 rfl ?_
      obtain ⟨b16, h⟩ := h
      refine r_aald (pc := 48) C (lay_A rfl) b16 d_C_store_48 ?_
      intro e17 he17; replace h := h e17 he17
      obtain ⟨o18, h⟩ := h
      obtain ⟨b19, h⟩ := h
      obtain ⟨o21, h⟩ := h
      refine r_aast (pc := 49) C (ok_A o18) b19 d_C_store_49 o21 ?_
      intro μ20 eμ20; replace h := h μ20 eμ20
      exact r_vret (pc := 50) C d_C_store_50 (by decide) (by decide) h
    · intro hc; replace h := h.1 hc
      refine r_aload_n (pc := 27) C d_C_store_27 rfl 1 rfl ?_
      refine r_getR (pc := 28) (ci := 0) C rfl 4 (by decide) (k_110 C.w) rfl (lay_O rfl) d_C_store_28 ?_
      refine r_aload (pc := 31) C d_C_store_31 0 rfl ?_
      refine r_iload_n (pc := 33) C d_C_store_33 rfl 3 rfl ?_
      refine r_cVv (pc := 34) (a' := 1) (b' := 6) (As := [.inr (.inl (some y2)), .inl a2]) (ci := 3) C (c_G_add C.s h) o_G_add rfl (lay_O rfl) (k_561 C.w) rfl ⟨by decide, by decide, by decide, by decide⟩ rfl rfl (Nat.le_of_ble_eq_true rfl) d_C_store_34 rfl ?_
      intro μ22 h
      refine r_aload (pc := 37) C d_C_store_37 0 rfl ?_
      obtain ⟨o23, h⟩ := h
      refine r_getR (pc := 39) (ci := 5) C rfl 2 (by decide) (k_466 C.w) rfl (ok_O o23) d_C_store_39 ?_
      refine r_iload_n (pc := 42) C d_C_store_42 rfl 3 rfl ?_
      refine r_aload_n (pc := 43) C d_C_store_43 rfl 1 rfl ?_
      refine r_getR (pc := 44) (ci := 0) C rfl 0 (by decide) (k_106 C.w) rfl (lay_O rfl) d_C_store_44 ?_
      refine r_iload_n (pc := 47) C d_C_store_47 rfl 4 rfl ?_
      obtain ⟨b24, h⟩ := h
      refine r_aald (pc := 48) C (lay_A rfl) b24 d_C_store_48 ?_
      intro e25 he25; replace h := h e25 he25
      obtain ⟨o26, h⟩ := h
      obtain ⟨b27, h⟩ := h
      obtain ⟨o29, h⟩ := h
      refine r_aast (pc := 49) C (ok_A o26) b27 d_C_store_49 o29 ?_
      intro μ28 eμ28; replace h := h μ28 eμ28
      exact r_vret (pc := 50) C d_C_store_50 (by decide) (by decide) h
theorem c_C_drain {l : Launch} (hl : l.stackTraces = false) {G : Gl} {a1 : Int32} {pe : Nat → Mem → Prop} {post : Int32 → Mem → Prop} {μ : Mem} (h : wC_drain a1 pe post μ) : Ct l G i_C_drain [.inr (.inl (some 0)), .inl a1] μ (poI post) pe := by
  refine ct_of hl (by decide) (Nat.le_of_ble_eq_true rfl) ?_
  intro K hKl C hE
  clear hl hKl
  replace C : Cx K G prog_1_method_7_code "LineCollector" 2 { frames := 6, cells := 1, slots := 6, locals := 108 } (some .int) (poI post) pe := C
  show Rn K G 2 0 [(0, .inr (.inl (some 0))), (1, .inl a1)] [] μ 0 0
  unfold wC_drain at h
  refine r_iload_n (pc := 0) C d_C_drain_0 rfl 1 rfl ?_
  refine r_if_ge (tgt := 12) (pc := 1) C d_C_drain_1 (by decide) ?_ ?_
  · intro hc; replace h := h.1 hc
    refine r_aload_n (pc := 12) C d_C_drain_12 rfl 0 rfl ?_
    refine r_iload_n (pc := 13) C d_C_drain_13 rfl 1 rfl ?_
    refine r_cVv (pc := 14) (a' := 0) (b' := 0) (As := [.inl a1]) (ci := 0) C (c_C_drainUpTo C.s h) o_C_drainUpTo rfl (lay_O rfl) (k_145 C.w) rfl ⟨by decide, by decide, by decide, by decide⟩ rfl rfl (Nat.le_of_ble_eq_true rfl) d_C_drain_14 rfl ?_
    intro μ1 h
    refine r_aload_n (pc := 17) C d_C_drain_17 rfl 0 rfl ?_
    refine r_getR (pc := 18) (ci := 0) C rfl 5 (by decide) (k_111 C.w) rfl (lay_O rfl) d_C_drain_18 ?_
    refine r_getI (pc := 21) (ci := 4) C rfl 2 (by decide) (k_98 C.w) rfl (lay_O rfl) d_C_drain_21 ?_
    exact r_iret (pc := 24) C d_C_drain_24 (by decide) (by decide) h
  · intro hc; replace h := h.2 hc
    exact r_throw (pc := 4) C hE (q := 7) rfl (by decide +kernel) (k_358 C.w) x_ins7 x_ini7 (x_C_51) d_C_drain_4 d_C_drain_7 d_C_drain_8 d_C_drain_11 ⟨by decide, by decide, by decide, by decide⟩ h
theorem c_C_trace {l : Launch} (hl : l.stackTraces = false) {G : Gl} {a1 : Int32} {pe : Nat → Mem → Prop} {post : Int32 → Mem → Prop} {μ : Mem} (h : wC_trace a1 pe post μ) : Ct l G i_C_trace [.inr (.inl (some 0)), .inl a1] μ (poI post) pe := by
  refine ct_of hl (by decide) (Nat.le_of_ble_eq_true rfl) ?_
  intro K hKl C hE
  clear hl hKl
  replace C : Cx K G prog_1_method_8_code "LineCollector" 2 { frames := 6, cells := 1, slots := 6, locals := 131 } (some .int) (poI post) pe := C
  show Rn K G 2 0 [(0, .inr (.inl (some 0))), (1, .inl a1)] [] μ 0 0
  unfold wC_trace at h
  refine r_iload_n (pc := 0) C d_C_trace_0 rfl 1 rfl ?_
  refine r_if_ge (tgt := 12) (pc := 1) C d_C_trace_1 (by decide) ?_ ?_
  · intro hc; replace h := h.1 hc
    refine r_aload_n (pc := 12) C d_C_trace_12 rfl 0 rfl ?_
    refine r_getI (pc := 13) (ci := 0) C rfl 7 (by decide) (k_113 C.w) rfl (lay_O rfl) d_C_trace_13 ?_
    refine r_if_ne (tgt := 27) (pc := 16) C d_C_trace_16 (by decide) ?_ ?_
    · intro hc; replace h := h.2 hc
      refine r_aload_n (pc := 27) C d_C_trace_27 rfl 0 rfl ?_
      refine r_iload_n (pc := 28) C d_C_trace_28 rfl 1 rfl ?_
      refine r_cVv (pc := 29) (a' := 0) (b' := 0) (As := [.inl a1]) (ci := 0) C (c_C_stepUpTo C.s h) o_C_stepUpTo rfl (lay_O rfl) (k_428 C.w) rfl ⟨by decide, by decide, by decide, by decide⟩ rfl rfl (Nat.le_of_ble_eq_true rfl) d_C_trace_29 rfl ?_
      intro μ1 h
      refine r_aload_n (pc := 32) C d_C_trace_32 rfl 0 rfl ?_
      refine r_cVi (pc := 33) (a' := 0) (b' := 0) (As := []) (ci := 0) C (c_C_countGrey C.s h) o_C_countGrey rfl (lay_O rfl) (k_289 C.w) rfl ⟨by decide, by decide, by decide, by decide⟩ rfl rfl (Nat.le_of_ble_eq_true rfl) d_C_trace_33 rfl ?_
      intro r3 μ2 h
      exact r_iret (pc := 36) C d_C_trace_36 (by decide) (by decide) h
    · intro hc; replace h := h.1 hc
      exact r_throw (pc := 19) C hE (q := 8) rfl (by decide +kernel) (k_517 C.w) x_ins8 x_ini8 (x_C_105) d_C_trace_19 d_C_trace_22 d_C_trace_23 d_C_trace_26 ⟨by decide, by decide, by decide, by decide⟩ h
  · intro hc; replace h := h.2 hc
    exact r_throw (pc := 4) C hE (q := 7) rfl (by decide +kernel) (k_358 C.w) x_ins7 x_ini7 (x_C_51) d_C_trace_4 d_C_trace_7 d_C_trace_8 d_C_trace_11 ⟨by decide, by decide, by decide, by decide⟩ h
theorem c_C_root {l : Launch} (hl : l.stackTraces = false) {G : Gl} {a1 : Int32} {pe : Nat → Mem → Prop} {post : Int32 → Mem → Prop} {μ : Mem} (h : wC_root a1 pe post μ) : Ct l G i_C_root [.inr (.inl (some 0)), .inl a1] μ (poI post) pe := by
  refine ct_of hl (by decide) (Nat.le_of_ble_eq_true rfl) ?_
  intro K hKl C hE
  clear hl hKl
  replace C : Cx K G prog_1_method_10_code "LineCollector" 2 { frames := 6, cells := 1, slots := 6, locals := 81 } (some .int) (poI post) pe := C
  show Rn K G 2 0 [(0, .inr (.inl (some 0))), (1, .inl a1)] [] μ 0 0
  unfold wC_root at h
  refine r_iload_n (pc := 0) C d_C_root_0 rfl 1 rfl ?_
  refine r_cSi (pc := 1) (a' := 0) (b' := 0) (As := [.inl a1]) C (c_C_isRoot C.s h) o_C_isRoot (k_355 C.w) rfl ⟨by decide, by decide, by decide, by decide⟩ rfl rfl (Nat.le_of_ble_eq_true rfl) d_C_root_1 rfl ?_
  intro r2 μ1 h
  refine r_if_ne (tgt := 15) (pc := 4) C d_C_root_4 (by decide) ?_ ?_
  · intro hc; replace h := h.2 hc
    refine r_aload_n (pc := 15) C d_C_root_15 rfl 0 rfl ?_
    refine r_getR (pc := 16) (ci := 0) C rfl 0 (by decide) (k_106 C.w) rfl (lay_O rfl) d_C_root_16 ?_
    refine r_iload_n (pc := 19) C d_C_root_19 rfl 1 rfl ?_
    obtain ⟨b3, h⟩ := h
    refine r_aald (pc := 20) C (lay_A rfl) b3 d_C_root_20 ?_
    intro e4 he4; replace h := h e4 he4
    refine r_cSi (pc := 21) (a' := 0) (b' := 0) (As := [.inr (.inl e4)]) C (c_C_addressOf C.s h) o_C_addressOf (k_551 C.w) rfl ⟨by decide, by decide, by decide, by decide⟩ rfl rfl (Nat.le_of_ble_eq_true rfl) d_C_root_21 rfl ?_
    intro r6 μ5 h
    exact r_iret (pc := 24) C d_C_root_24 (by decide) (by decide) h
  · intro hc; replace h := h.1 hc
    exact r_throw (pc := 7) C hE (q := 7) rfl (by decide +kernel) (k_358 C.w) x_ins7 x_ini7 (x_C_51) d_C_root_7 d_C_root_10 d_C_root_11 d_C_root_14 ⟨by decide, by decide, by decide, by decide⟩ h
theorem c_C_itemOrNull {l : Launch} (hl : l.stackTraces = false) {G : Gl} {a1 : Int32} {post : Option Nat → Mem → Prop} {μ : Mem} (h : wC_itemOrNull a1 post μ) : Ct l G i_C_itemOrNull [.inr (.inl (some 0)), .inl a1] μ (poQ G post) noX := by
  refine ct_of hl (by decide) (Nat.le_of_ble_eq_true rfl) ?_
  intro K hKl C hE
  clear hl hKl
  replace C : Cx K G prog_1_method_18_code "LineCollector" 2 { frames := 0, cells := 0, slots := 0, locals := 0 } (some (.object "LineCollector$Item")) (poQ G post) noX := C
  show Rn K G 2 0 [(0, .inr (.inl (some 0))), (1, .inl a1)] [] μ 0 0
  unfold wC_itemOrNull at h
  refine r_iload_n (pc := 0) C d_C_itemOrNull_0 rfl 1 rfl ?_
  refine r_if_lt (tgt := 20) (pc := 1) C d_C_itemOrNull_1 (by decide) ?_ ?_
  · intro hc; replace h := h.1 hc
    refine r_null (pc := 20) C d_C_itemOrNull_20 ?_
    exact r_aret (pc := 21) C d_C_itemOrNull_21 (by decide) (by decide) h
  · intro hc; replace h := h.2 hc
    refine r_iload_n (pc := 4) C d_C_itemOrNull_4 rfl 1 rfl ?_
    refine r_sipush (pc := 5) C d_C_itemOrNull_5 (v := 128) (by decide) ?_
    refine r_icmp_ge (tgt := 20) (pc := 8) C d_C_itemOrNull_8 (by decide) ?_ ?_
    · intro hc; replace h := h.1 hc
      refine r_null (pc := 20) C d_C_itemOrNull_20 ?_
      exact r_aret (pc := 21) C d_C_itemOrNull_21 (by decide) (by decide) h
    · intro hc; replace h := h.2 hc
      refine r_aload_n (pc := 11) C d_C_itemOrNull_11 rfl 0 rfl ?_
      refine r_getR (pc := 12) (ci := 0) C rfl 2 (by decide) (k_108 C.w) rfl (lay_O rfl) d_C_itemOrNull_12 ?_
      refine r_iload_n (pc := 15) C d_C_itemOrNull_15 rfl 1 rfl ?_
      obtain ⟨b1, h⟩ := h
      refine r_aald (pc := 16) C (lay_A rfl) b1 d_C_itemOrNull_16 ?_
      intro e2 he2; replace h := h e2 he2
      refine r_goto (tgt := 21) (pc := 17) C d_C_itemOrNull_17 (by decide) ?_
      exact r_aret (pc := 21) C d_C_itemOrNull_21 (by decide) (by decide) h
theorem c_C_field {l : Launch} (hl : l.stackTraces = false) {G : Gl} {a1 : Int32} {a2 : Int32} {pe : Nat → Mem → Prop} {post : Int32 → Mem → Prop} {μ : Mem} (h : wC_field a1 a2 pe post μ) : Ct l G i_C_field [.inr (.inl (some 0)), .inl a1, .inl a2] μ (poI post) pe := by
  refine ct_of hl (by decide) (Nat.le_of_ble_eq_true rfl) ?_
  intro K hKl C hE
  clear hl hKl
  replace C : Cx K G prog_1_method_11_code "LineCollector" 4 { frames := 6, cells := 1, slots := 6, locals := 81 } (some .int) (poI post) pe := C
  show Rn K G 4 0 [(0, .inr (.inl (some 0))), (1, .inl a1), (2, .inl a2)] [] μ 0 0
  unfold wC_field at h
  refine r_aload_n (pc := 0) C d_C_field_0 rfl 0 rfl ?_
  refine r_iload_n (pc := 1) C d_C_field_1 rfl 1 rfl ?_
  refine r_cVq (pc := 2) (a' := 0) (b' := 0) (As := [.inl a1]) (ci := 0) C (c_C_itemOrNull C.s h) o_C_itemOrNull rfl (lay_O rfl) (k_594 C.w) rfl ⟨by decide, by decide, by decide, by decide⟩ rfl rfl (Nat.le_of_ble_eq_true rfl) d_C_field_2 rfl ?_
  intro r2 μ1 h
  refine r_astore_n (pc := 5) (lv' := [(0, .inr (.inl (some 0))), (1, .inl a1), (2, .inl a2)]) C d_C_field_5 rfl (by decide) rfl ?_
  refine r_aload_n (pc := 6) C d_C_field_6 rfl 0 rfl ?_
  refine r_ifnonnull (tgt := 18) (pc := 7) C d_C_field_7 (by decide) ?_ ?_
  · intro y3 h0; subst h0; replace h := h.2 y3 rfl
    refine r_aload_n (pc := 18) C d_C_field_18 rfl 0 rfl ?_
    refine r_iload_n (pc := 19) C d_C_field_19 rfl 3 rfl ?_
    obtain ⟨o4, h⟩ := h
    refine r_cVi (pc := 20) (a' := 0) (b' := 0) (As := [.inl a2]) (ci := 5) C (c_I_hasField C.s h) o_I_hasField rfl (ok_O o4) (k_532 C.w) rfl ⟨by decide, by decide, by decide, by decide⟩ rfl rfl (Nat.le_of_ble_eq_true rfl) d_C_field_20 rfl ?_
    intro r6 μ5 h
    refine r_if_ne (tgt := 34) (pc := 23) C d_C_field_23 (by decide) ?_ ?_
    · intro hc; replace h := h.2 hc
      refine r_aload_n (pc := 34) C d_C_field_34 rfl 0 rfl ?_
      obtain ⟨o7, h⟩ := h
      refine r_getR (pc := 35) (ci := 5) C rfl 2 (by decide) (k_466 C.w) rfl (ok_O o7) d_C_field_35 ?_
      refine r_iload_n (pc := 38) C d_C_field_38 rfl 3 rfl ?_
      obtain ⟨o8, h⟩ := h
      obtain ⟨b9, h⟩ := h
      refine r_aald (pc := 39) C (ok_A o8) b9 d_C_field_39 ?_
      intro e10 he10; replace h := h e10 he10
      refine r_cSi (pc := 40) (a' := 0) (b' := 0) (As := [.inr (.inl e10)]) C (c_C_addressOf C.s h) o_C_addressOf (k_551 C.w) rfl ⟨by decide, by decide, by decide, by decide⟩ rfl rfl (Nat.le_of_ble_eq_true rfl) d_C_field_40 rfl ?_
      intro r12 μ11 h
      exact r_iret (pc := 43) C d_C_field_43 (by decide) (by decide) h
    · intro hc; replace h := h.1 hc
      exact r_throw (pc := 26) C hE (q := 9) rfl (by decide +kernel) (k_536 C.w) x_ins9 x_ini9 (x_C_159) d_C_field_26 d_C_field_29 d_C_field_30 d_C_field_33 ⟨by decide, by decide, by decide, by decide⟩ h
  · intro h0; subst h0; replace h := h.1 rfl
    exact r_throw (pc := 10) C hE (q := 11) rfl (by decide +kernel) (k_598 C.w) x_ins11 x_ini11 (x_C_153) d_C_field_10 d_C_field_13 d_C_field_14 d_C_field_17 ⟨by decide, by decide, by decide, by decide⟩ h
theorem c_C_object {l : Launch} (hl : l.stackTraces = false) {G : Gl} {a1 : Int32} {a2 : Int32} {pe : Nat → Mem → Prop} {post : Int32 → Mem → Prop} {μ : Mem} (h : wC_object a1 a2 pe post μ) : Ct l G i_C_object [.inr (.inl (some 0)), .inl a1, .inl a2] μ (poI post) pe := by
  refine ct_of hl (by decide) (Nat.le_of_ble_eq_true rfl) ?_
  intro K hKl C hE
  clear hl hKl
  replace C : Cx K G prog_1_method_12_code "LineCollector" 4 { frames := 6, cells := 1, slots := 6, locals := 81 } (some .int) (poI post) pe := C
  show Rn K G 4 0 [(0, .inr (.inl (some 0))), (1, .inl a1), (2, .inl a2)] [] μ 0 0
  unfold wC_object at h
  refine r_iload_n (pc := 0) C d_C_object_0 rfl 2 rfl ?_
  refine r_if_lt (tgt := 9) (pc := 1) C d_C_object_1 (by decide) ?_ ?_
  · intro hc; replace h := h.1 hc
    exact r_throw (pc := 9) C hE (q := 7) rfl (by decide +kernel) (k_358 C.w) x_ins7 x_ini7 (x_C_51) d_C_object_9 d_C_object_12 d_C_object_13 d_C_object_16 ⟨by decide, by decide, by decide, by decide⟩ h
  · intro hc; replace h := h.2 hc
    refine r_iload_n (pc := 4) C d_C_object_4 rfl 2 rfl ?_
    refine r_iconst (pc := 5) C d_C_object_5 (v := 3) (by decide) ?_
    refine r_icmp_le (tgt := 17) (pc := 6) C d_C_object_6 (by decide) ?_ ?_
    · intro hc; replace h := h.1 hc
      refine r_aload_n (pc := 17) C d_C_object_17 rfl 0 rfl ?_
      refine r_iload_n (pc := 18) C d_C_object_18 rfl 1 rfl ?_
      refine r_cVq (pc := 19) (a' := 0) (b' := 0) (As := [.inl a1]) (ci := 0) C (c_C_itemOrNull C.s h) o_C_itemOrNull rfl (lay_O rfl) (k_594 C.w) rfl ⟨by decide, by decide, by decide, by decide⟩ rfl rfl (Nat.le_of_ble_eq_true rfl) d_C_object_19 rfl ?_
      intro r2 μ1 h
      refine r_astore_n (pc := 22) (lv' := [(0, .inr (.inl (some 0))), (1, .inl a1), (2, .inl a2)]) C d_C_object_22 rfl (by decide) rfl ?_
      refine r_aload_n (pc := 23) C d_C_object_23 rfl 0 rfl ?_
      refine r_ifnonnull (tgt := 35) (pc := 24) C d_C_object_24 (by decide) ?_ ?_
      · intro y3 h0; subst h0; replace h := h.2 y3 rfl
        refine r_iload_n (pc := 35) C d_C_object_35 rfl 3 rfl ?_
        by_cases hs0 : a2 = 0
        · replace h := h.1 hs0
          refine r_tin (tgt := 64) (pc := 36) C d_C_object_36 hs0 (by decide) (by decide) (by rfl) (by decide) ?_
          refine r_aload_n (pc := 64) C d_C_object_64 rfl 0 rfl ?_
          obtain ⟨o4, h⟩ := h
          refine r_getI (pc := 65) (ci := 5) C rfl 0 (by decide) (k_461 C.w) rfl (ok_O o4) d_C_object_65 ?_
          exact r_iret (pc := 68) C d_C_object_68 (by decide) (by decide) h
        by_cases hs1 : a2 = 1
        · replace h := h.2.1 hs1
          refine r_tin (tgt := 69) (pc := 36) C d_C_object_36 hs1 (by decide) (by decide) (by rfl) (by decide) ?_
          refine r_aload_n (pc := 69) C d_C_object_69 rfl 0 rfl ?_
          obtain ⟨o5, h⟩ := h
          refine r_getI (pc := 70) (ci := 5) C rfl 1 (by decide) (k_463 C.w) rfl (ok_O o5) d_C_object_70 ?_
          exact r_iret (pc := 73) C d_C_object_73 (by decide) (by decide) h
        by_cases hs2 : a2 = 2
        · replace h := h.2.2.1 hs2
          refine r_tin (tgt := 74) (pc := 36) C d_C_object_36 hs2 (by decide) (by decide) (by rfl) (by decide) ?_
          refine r_aload_n (pc := 74) C d_C_object_74 rfl 0 rfl ?_
          obtain ⟨o6, h⟩ := h
          refine r_getI (pc := 75) (ci := 5) C rfl 5 (by decide) (k_472 C.w) rfl (ok_O o6) d_C_object_75 ?_
          exact r_iret (pc := 78) C d_C_object_78 (by decide) (by decide) h
        replace h := h.2.2.2 hs0 hs1 hs2
        refine r_tout (tgt := 79) (N := 2) (pc := 36) C d_C_object_36 (by decide) (fun n hn => ?_) (by decide) ?_
        · match n, hn with
          | 0, _ => exact hs0
          | 1, _ => exact hs1
          | 2, _ => exact hs2
          | n + 3, hn => exact absurd hn (by omega)
        refine r_aload_n (pc := 79) C d_C_object_79 rfl 0 rfl ?_
        obtain ⟨o7, h⟩ := h
        refine r_getI (pc := 80) (ci := 5) C rfl 6 (by decide) (k_474 C.w) rfl (ok_O o7) d_C_object_80 ?_
        exact r_iret (pc := 83) C d_C_object_83 (by decide) (by decide) h
      · intro h0; subst h0; replace h := h.1 rfl
        exact r_throw (pc := 27) C hE (q := 11) rfl (by decide +kernel) (k_598 C.w) x_ins11 x_ini11 (x_C_153) d_C_object_27 d_C_object_30 d_C_object_31 d_C_object_34 ⟨by decide, by decide, by decide, by decide⟩ h
    · intro hc; replace h := h.2 hc
      exact r_throw (pc := 9) C hE (q := 7) rfl (by decide +kernel) (k_358 C.w) x_ins7 x_ini7 (x_C_51) d_C_object_9 d_C_object_12 d_C_object_13 d_C_object_16 ⟨by decide, by decide, by decide, by decide⟩ h
