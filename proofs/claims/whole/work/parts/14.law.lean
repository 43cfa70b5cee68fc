/-! The law: its predicates, and its walk (written by a program) -/
def wL_start (k : Nat → Nat → Nat → Mem → Prop) (μ : Mem) : Prop :=
  ∀ y1 μ2, y1 = mN μ → μ2 = newO μ 40 →
  wC_init y1 (fun μ3 => finOk μ3 y1 0 ∧ ∀ μ4, μ4 = finO μ3 y1 0 →
  ∀ y6 μ7, y6 = mN μ4 → μ7 = newO μ4 46 →
  wM_init y6 (fun μ8 =>
  ∀ y11 μ12, y11 = mN μ8 → μ12 = newA μ8 23 (1 : Int32).toNatClampNeg →
  k y1 y6 y11 μ12) μ7) μ2
def wL_law_535 (L : Nat) (xs : Nat → Int32) (l4 : Int32) (t1 : Int32) (k23 : Int32 → Mem → Prop) (post : Int32 → Mem → Prop) (μ : Mem) : Prop :=
  wC_pause t1 (fun r87 μ86 => vp_in (l4 + 1) L ∧ (((xs (l4 + 1).toNatClampNeg) = 0 → wM_pause 0 (fun r90 μ89 => ((r87 = r90 → k23 (l4 + 4) μ89) ∧
  (¬ r87 = r90 → post 0 μ89))) μ86) ∧
  (¬ (xs (l4 + 1).toNatClampNeg) = 0 → wM_pause 1 (fun r92 μ91 => ((r87 = r92 → k23 (l4 + 4) μ91) ∧
  (¬ r87 = r92 → post 0 μ91))) μ86))) μ
def wL_law_23 (L : Nat) (xs : Nat → Int32) (k : Int32 → Mem → Prop) (post : Int32 → Mem → Prop) : Nat → Int32 → Mem → Prop
  | 0, _, _ => False
  | n + 1, l4, μ =>
  ((((Int32.ofNat L) - 4) < l4 → k l4 μ) ∧
  (¬ ((Int32.ofNat L) - 4) < l4 → vp_in l4 L ∧ (((xs (l4).toNatClampNeg) &&& 15 = 0 → vp_in (l4 + 1) L ∧ vp_in (l4 + 2) L ∧ vp_in (l4 + 3) L ∧ wL_allocate (xs (l4 + 1).toNatClampNeg) (xs (l4 + 2).toNatClampNeg) (xs (l4 + 3).toNatClampNeg) (fun r18 μ17 => vp_in (l4 + 1) L ∧ vp_in (l4 + 2) L ∧ vp_in (l4 + 3) L ∧ wM_allocate (xs (l4 + 1).toNatClampNeg) (xs (l4 + 2).toNatClampNeg) (xs (l4 + 3).toNatClampNeg) (fun r23 μ22 => wM_thrown (fun r25 μ24 => ((r25 = r18 → ((r18 = 0 → vp_in 0 1 ∧ (((lg_cmp ((mI μ24 34 (0 : Int32).toNatClampNeg).toInt64) r23.toInt64) = 0 → wL_law_23 L xs k post n (l4 + 4) μ24) ∧
  (¬ (lg_cmp ((mI μ24 34 (0 : Int32).toNatClampNeg).toInt64) r23.toInt64) = 0 → post 0 μ24))) ∧
  (¬ r18 = 0 → wL_law_23 L xs k post n (l4 + 4) μ24))) ∧
  (¬ r25 = r18 → post 0 μ24))) μ22) μ17) μ) ∧
  ((xs (l4).toNatClampNeg) &&& 15 = 1 → vp_in (l4 + 1) L ∧ wL_drop (xs (l4 + 1).toNatClampNeg) (fun r29 μ28 => vp_in (l4 + 1) L ∧ wM_drop (xs (l4 + 1).toNatClampNeg) (fun μ31 => wM_thrown (fun r33 μ32 => ((r33 = r29 → wL_law_23 L xs k post n (l4 + 4) μ32) ∧
  (¬ r33 = r29 → post 0 μ32))) μ31) μ28) μ) ∧
  ((xs (l4).toNatClampNeg) &&& 15 = 2 → vp_in (l4 + 1) L ∧ vp_in (l4 + 2) L ∧ wL_copy (xs (l4 + 1).toNatClampNeg) (xs (l4 + 2).toNatClampNeg) (fun r37 μ36 => vp_in (l4 + 1) L ∧ vp_in (l4 + 2) L ∧ wM_copy (xs (l4 + 1).toNatClampNeg) (xs (l4 + 2).toNatClampNeg) (fun μ40 => wM_thrown (fun r42 μ41 => ((r42 = r37 → wL_law_23 L xs k post n (l4 + 4) μ41) ∧
  (¬ r42 = r37 → post 0 μ41))) μ40) μ36) μ) ∧
  ((xs (l4).toNatClampNeg) &&& 15 = 3 → vp_in (l4 + 1) L ∧ vp_in (l4 + 2) L ∧ vp_in (l4 + 3) L ∧ wL_load (xs (l4 + 1).toNatClampNeg) (xs (l4 + 2).toNatClampNeg) (xs (l4 + 3).toNatClampNeg) (fun r47 μ46 => vp_in (l4 + 1) L ∧ vp_in (l4 + 2) L ∧ vp_in (l4 + 3) L ∧ wM_load (xs (l4 + 1).toNatClampNeg) (xs (l4 + 2).toNatClampNeg) (xs (l4 + 3).toNatClampNeg) (fun r52 μ51 => wM_thrown (fun r54 μ53 => ((r54 = r47 → ((r47 = 0 → vp_in 0 1 ∧ (((lg_cmp ((mI μ53 34 (0 : Int32).toNatClampNeg).toInt64) r52.toInt64) = 0 → wL_law_23 L xs k post n (l4 + 4) μ53) ∧
  (¬ (lg_cmp ((mI μ53 34 (0 : Int32).toNatClampNeg).toInt64) r52.toInt64) = 0 → post 0 μ53))) ∧
  (¬ r47 = 0 → wL_law_23 L xs k post n (l4 + 4) μ53))) ∧
  (¬ r54 = r47 → post 0 μ53))) μ51) μ46) μ) ∧
  ((xs (l4).toNatClampNeg) &&& 15 = 4 → vp_in (l4 + 1) L ∧ vp_in (l4 + 2) L ∧ vp_in (l4 + 3) L ∧ wL_store (xs (l4 + 1).toNatClampNeg) (xs (l4 + 2).toNatClampNeg) (xs (l4 + 3).toNatClampNeg) (fun r60 μ59 => vp_in (l4 + 1) L ∧ vp_in (l4 + 2) L ∧ vp_in (l4 + 3) L ∧ wM_store (xs (l4 + 1).toNatClampNeg) (xs (l4 + 2).toNatClampNeg) (xs (l4 + 3).toNatClampNeg) (fun μ64 => wM_thrown (fun r66 μ65 => ((r66 = r60 → wL_law_23 L xs k post n (l4 + 4) μ65) ∧
  (¬ r66 = r60 → post 0 μ65))) μ64) μ59) μ) ∧
  ((xs (l4).toNatClampNeg) &&& 15 = 5 → vp_in (l4 + 1) L ∧ wL_drain (xs (l4 + 1).toNatClampNeg) (fun r69 μ68 => vp_in (l4 + 1) L ∧ wM_drain (xs (l4 + 1).toNatClampNeg) (fun r72 μ71 => wM_thrown (fun r74 μ73 => ((r74 = r69 → ((r69 = 0 → vp_in 0 1 ∧ (((lg_cmp ((mI μ73 34 (0 : Int32).toNatClampNeg).toInt64) r72.toInt64) = 0 → wL_law_23 L xs k post n (l4 + 4) μ73) ∧
  (¬ (lg_cmp ((mI μ73 34 (0 : Int32).toNatClampNeg).toInt64) r72.toInt64) = 0 → post 0 μ73))) ∧
  (¬ r69 = 0 → wL_law_23 L xs k post n (l4 + 4) μ73))) ∧
  (¬ r74 = r69 → post 0 μ73))) μ71) μ68) μ) ∧
  ((xs (l4).toNatClampNeg) &&& 15 = 6 → vp_in (l4 + 1) L ∧ wL_trace (xs (l4 + 1).toNatClampNeg) (fun r78 μ77 => vp_in (l4 + 1) L ∧ wM_trace (xs (l4 + 1).toNatClampNeg) (fun r81 μ80 => wM_thrown (fun r83 μ82 => ((r83 = r78 → ((r78 = 0 → vp_in 0 1 ∧ (((lg_cmp ((mI μ82 34 (0 : Int32).toNatClampNeg).toInt64) r81.toInt64) = 0 → wL_law_23 L xs k post n (l4 + 4) μ82) ∧
  (¬ (lg_cmp ((mI μ82 34 (0 : Int32).toNatClampNeg).toInt64) r81.toInt64) = 0 → post 0 μ82))) ∧
  (¬ r78 = 0 → wL_law_23 L xs k post n (l4 + 4) μ82))) ∧
  (¬ r83 = r78 → post 0 μ82))) μ80) μ77) μ) ∧
  ((xs (l4).toNatClampNeg) &&& 15 = 7 → vp_in (l4 + 1) L ∧ (((xs (l4 + 1).toNatClampNeg) = 0 → wL_law_535 L xs l4 0 (wL_law_23 L xs k post n) post μ) ∧
  (¬ (xs (l4 + 1).toNatClampNeg) = 0 → wL_law_535 L xs l4 1 (wL_law_23 L xs k post n) post μ))) ∧
  ((xs (l4).toNatClampNeg) &&& 15 = 8 → vp_in (l4 + 1) L ∧ wL_root (xs (l4 + 1).toNatClampNeg) (fun r95 μ94 => vp_in (l4 + 1) L ∧ wM_root (xs (l4 + 1).toNatClampNeg) (fun r98 μ97 => wM_thrown (fun r100 μ99 => ((r100 = r95 → ((r95 = 0 → vp_in 0 1 ∧ (((lg_cmp ((mI μ99 34 (0 : Int32).toNatClampNeg).toInt64) r98.toInt64) = 0 → wL_law_23 L xs k post n (l4 + 4) μ99) ∧
  (¬ (lg_cmp ((mI μ99 34 (0 : Int32).toNatClampNeg).toInt64) r98.toInt64) = 0 → post 0 μ99))) ∧
  (¬ r95 = 0 → wL_law_23 L xs k post n (l4 + 4) μ99))) ∧
  (¬ r100 = r95 → post 0 μ99))) μ97) μ94) μ) ∧
  ((xs (l4).toNatClampNeg) &&& 15 = 9 → vp_in (l4 + 1) L ∧ vp_in (l4 + 2) L ∧ wL_field (xs (l4 + 1).toNatClampNeg) (xs (l4 + 2).toNatClampNeg) (fun r105 μ104 => vp_in (l4 + 1) L ∧ vp_in (l4 + 2) L ∧ wM_field (xs (l4 + 1).toNatClampNeg) (xs (l4 + 2).toNatClampNeg) (fun r109 μ108 => wM_thrown (fun r111 μ110 => ((r111 = r105 → ((r105 = 0 → vp_in 0 1 ∧ (((lg_cmp ((mI μ110 34 (0 : Int32).toNatClampNeg).toInt64) r109.toInt64) = 0 → wL_law_23 L xs k post n (l4 + 4) μ110) ∧
  (¬ (lg_cmp ((mI μ110 34 (0 : Int32).toNatClampNeg).toInt64) r109.toInt64) = 0 → post 0 μ110))) ∧
  (¬ r105 = 0 → wL_law_23 L xs k post n (l4 + 4) μ110))) ∧
  (¬ r111 = r105 → post 0 μ110))) μ108) μ104) μ) ∧
  ((xs (l4).toNatClampNeg) &&& 15 = 10 → vp_in (l4 + 1) L ∧ vp_in (l4 + 2) L ∧ wL_object (xs (l4 + 1).toNatClampNeg) (xs (l4 + 2).toNatClampNeg) (fun r116 μ115 => vp_in (l4 + 1) L ∧ vp_in (l4 + 2) L ∧ wM_object (xs (l4 + 1).toNatClampNeg) (xs (l4 + 2).toNatClampNeg) (fun r120 μ119 => wM_thrown (fun r122 μ121 => ((r122 = r116 → ((r116 = 0 → vp_in 0 1 ∧ (((lg_cmp ((mI μ121 34 (0 : Int32).toNatClampNeg).toInt64) r120.toInt64) = 0 → wL_law_23 L xs k post n (l4 + 4) μ121) ∧
  (¬ (lg_cmp ((mI μ121 34 (0 : Int32).toNatClampNeg).toInt64) r120.toInt64) = 0 → post 0 μ121))) ∧
  (¬ r116 = 0 → wL_law_23 L xs k post n (l4 + 4) μ121))) ∧
  (¬ r122 = r116 → post 0 μ121))) μ119) μ115) μ) ∧
  ((xs (l4).toNatClampNeg) &&& 15 = 11 → vp_in (l4 + 1) L ∧ wL_line (xs (l4 + 1).toNatClampNeg) (fun r126 μ125 => vp_in (l4 + 1) L ∧ wM_line (xs (l4 + 1).toNatClampNeg) (fun r129 μ128 => wM_thrown (fun r131 μ130 => ((r131 = r126 → ((r126 = 0 → vp_in 0 1 ∧ (((lg_cmp ((mI μ130 34 (0 : Int32).toNatClampNeg).toInt64) r129.toInt64) = 0 → wL_law_23 L xs k post n (l4 + 4) μ130) ∧
  (¬ (lg_cmp ((mI μ130 34 (0 : Int32).toNatClampNeg).toInt64) r129.toInt64) = 0 → post 0 μ130))) ∧
  (¬ r126 = 0 → wL_law_23 L xs k post n (l4 + 4) μ130))) ∧
  (¬ r131 = r126 → post 0 μ130))) μ128) μ125) μ) ∧
  ((xs (l4).toNatClampNeg) &&& 15 = 12 → vp_in (l4 + 1) L ∧ wL_figure (xs (l4 + 1).toNatClampNeg) (fun r135 μ134 => vp_in (l4 + 1) L ∧ wM_figure (xs (l4 + 1).toNatClampNeg) (fun r138 μ137 => wM_thrown (fun r140 μ139 => ((r140 = r135 → ((r135 = 0 → vp_in 0 1 ∧ (((lg_cmp ((mI μ139 34 (0 : Int32).toNatClampNeg).toInt64) r138.toInt64) = 0 → wL_law_23 L xs k post n (l4 + 4) μ139) ∧
  (¬ (lg_cmp ((mI μ139 34 (0 : Int32).toNatClampNeg).toInt64) r138.toInt64) = 0 → post 0 μ139))) ∧
  (¬ r135 = 0 → wL_law_23 L xs k post n (l4 + 4) μ139))) ∧
  (¬ r140 = r135 → post 0 μ139))) μ137) μ134) μ) ∧
  (¬ (xs (l4).toNatClampNeg) &&& 15 = 0 → ¬ (xs (l4).toNatClampNeg) &&& 15 = 1 → ¬ (xs (l4).toNatClampNeg) &&& 15 = 2 → ¬ (xs (l4).toNatClampNeg) &&& 15 = 3 → ¬ (xs (l4).toNatClampNeg) &&& 15 = 4 → ¬ (xs (l4).toNatClampNeg) &&& 15 = 5 → ¬ (xs (l4).toNatClampNeg) &&& 15 = 6 → ¬ (xs (l4).toNatClampNeg) &&& 15 = 7 → ¬ (xs (l4).toNatClampNeg) &&& 15 = 8 → ¬ (xs (l4).toNatClampNeg) &&& 15 = 9 → ¬ (xs (l4).toNatClampNeg) &&& 15 = 10 → ¬ (xs (l4).toNatClampNeg) &&& 15 = 11 → ¬ (xs (l4).toNatClampNeg) &&& 15 = 12 → wL_law_23 L xs k post n (l4 + 4) μ))))
theorem law_a {K : Kx} {G : Gl} (C : Cx K G code "LineCollectorLaw" 7 { frames := 13, cells := 601024, slots := 7293034, locals := 490 }) {k : Nat → Nat → Nat → Mem → Prop} {μ : Mem} (hk : ∀ (v1 v2 v3 : Nat) (μ : Mem), k v1 v2 v3 μ → Rn K G 7 23 [(0, .inr (.inr ())), (1, .inr (.inl (some v1))), (2, .inr (.inl (some v2))), (3, .inr (.inl (some v3))), (4, .inl 0)] [] μ 35 10448) (h : wL_start k μ) : Rn K G 7 0 [(0, .inr (.inr ()))] [] μ 0 0 := by
  unfold wL_start at h
  refine r_new (pc := 0) (ci := 0) (a' := 1) (b' := 11) C rfl (k_17 C.w) x_io0 x_ii0 d_L_law_0 ⟨by decide, by decide⟩ rfl rfl ?_
  intro y1 μ2 ey1 eμ2; replace h := h y1 μ2 ey1 eμ2
  refine r_dupR (pc := 3) C d_L_law_3 ?_
  refine r_cI (pc := 4) (a' := 17) (b' := 1144) (As := []) (host := "") C (c_C_init C.s h) o_C_init (Or.inl (k_19 C.w)) rfl ⟨by decide, by decide, by decide, by decide⟩ rfl rfl (Nat.le_of_ble_eq_true rfl) d_L_law_4 rfl ?_
  intro μ3 h; obtain ⟨f5, h⟩ := h
  refine r_fin (by decide) f5 ?_
  intro μ4 eμ4; replace h := h μ4 eμ4
  refine r_astore_n (pc := 7) (lv' := [(0, .inr (.inr ()))]) C d_L_law_7 rfl (by decide) rfl ?_
  refine r_new (pc := 8) (ci := 6) (a' := 18) (b' := 1175) C rfl (k_644 C.w) x_io6 x_ii6 d_L_law_8 ⟨by decide, by decide⟩ rfl rfl ?_
  intro y6 μ7 ey6 eμ7; replace h := h y6 μ7 ey6 eμ7
  refine r_dupR (pc := 11) C d_L_law_11 ?_
  refine r_cI (pc := 12) (a' := 34) (b' := 10447) (As := []) (host := "") C (c_M_init C.s h) o_M_init (Or.inl (k_646 C.w)) rfl ⟨by decide, by decide, by decide, by decide⟩ rfl rfl (Nat.le_of_ble_eq_true rfl) d_L_law_12 rfl ?_
  intro μ8 h
  refine r_astore_n (pc := 15) (lv' := [(1, .inr (.inl (some y1))), (0, .inr (.inr ()))]) C d_L_law_15 rfl (by decide) rfl ?_
  refine r_iconst (pc := 16) C d_L_law_16 (v := 1) (by decide) ?_
  refine r_newJ (pc := 17) (M := 1) (a' := 35) (b' := 10448) C x_acJ d_L_law_17 (by decide) (by decide) (by decide) ⟨by decide, by decide⟩ rfl rfl ?_
  intro y11 μ12 ey11 eμ12; replace h := h y11 μ12 ey11 eμ12
  refine r_astore_n (pc := 19) (lv' := [(2, .inr (.inl (some y6))), (1, .inr (.inl (some y1))), (0, .inr (.inr ()))]) C d_L_law_19 rfl (by decide) rfl ?_
  refine r_iconst (pc := 20) C d_L_law_20 (v := 0) (by decide) ?_
  refine r_istore (pc := 21) (lv' := [(3, .inr (.inl (some y11))), (2, .inr (.inl (some y6))), (1, .inr (.inl (some y1))), (0, .inr (.inr ()))]) C d_L_law_21 (by decide) rfl ?_
  refine r_sub [4, 3, 2, 1, 0] rfl ?_
  exact hk y1 y6 y11 μ12 h
set_option maxHeartbeats 4000000 in
theorem law_b {K : Kx} {G : Gl} (hg : gf G = true) (C : Cx K G code "LineCollectorLaw" 7 { frames := 13, cells := 601024, slots := 7293034, locals := 490 }) {post : Int32 → Mem → Prop} (Q : Cq K G { frames := 13, cells := 601024, slots := 7293034, locals := 490 } (some .boolean) (poI post) noX) : ∀ (k : Int32 → Mem → Prop), (∀ (v4 : Int32) (μ : Mem), k v4 μ → post 1 μ) → ∀ (n ca cb : Nat), ca + 3 * n ≤ 5000 → cb + 31 * n ≤ 50000 → ∀ (l4 : Int32) (μ : Mem), wL_law_23 (gL G) (gx G) k post n l4 μ → Rn K G 7 23 [(0, .inr (.inr ())), (1, .inr (.inl (some 0))), (2, .inr (.inl (some 17))), (3, .inr (.inl (some 34))), (4, .inl l4)] [] μ ca cb := by
  intro k hk n
  induction n with
  | zero => intro ca cb _ _ l4 μ h; exact h.elim
  | succ n ih =>
    intro ca cb hca hcb l4 μ h
    have J_535 : ∀ (l4 : Int32) (t1 : Int32) (k23 : Int32 → Mem → Prop) , (∀ (v4 : Int32) (μ : Mem), k23 v4 μ → Rn K G 7 23 [(0, .inr (.inr ())), (1, .inr (.inl (some 0))), (2, .inr (.inl (some 17))), (3, .inr (.inl (some 34))), (4, .inl v4)] [] μ ca cb) → ∀ (μ : Mem), wL_law_535 (gL G) (gx G) l4 t1 k23 post μ → Rn K G 7 535 [(0, .inr (.inr ())), (1, .inr (.inl (some 0))), (2, .inr (.inl (some 17))), (3, .inr (.inl (some 34))), (4, .inl l4)] [.int t1, rv G (some 0)] μ ca cb := by
      intro l4 t1 k23 hk23 μ h
      unfold wL_law_535 at h
      refine r_cVi (pc := 535) (a' := ca) (b' := cb) (As := [.inl t1]) (ci := 0) C (c_C_pause C.s hg h) o_C_pause rfl (lay_O hg rfl) (k_140 C.w) rfl ⟨by decide, by decide, by show ca ≤ 601024; omega, by show cb ≤ 7293034; omega⟩ rfl rfl (Nat.le_of_ble_eq_true rfl) d_L_law_535 rfl ?_
      intro r87 μ86 h
      refine r_aload_n (pc := 538) C d_L_law_538 rfl 2 rfl ?_
      refine r_aloadS (pc := 539) C d_L_law_539 rfl 0 rfl ?_
      refine r_iload (pc := 540) C d_L_law_540 4 rfl ?_
      refine r_iconst (pc := 542) C d_L_law_542 (v := 1) (by decide) ?_
      refine r_iadd (pc := 543) C d_L_law_543 ?_
      obtain ⟨b88, h⟩ := h
      refine r_sld (pc := 544) C b88 d_L_law_544 ?_
      refine r_if_eq (tgt := 552) (pc := 545) C d_L_law_545 (by decide) ?_ ?_
      · intro hc; replace h := h.1 hc
        refine r_iconst (pc := 552) C d_L_law_552 (v := 0) (by decide) ?_
        refine r_cVi (pc := 553) (a' := ca) (b' := cb) (As := [.inl 0]) (ci := 6) C (c_M_pause C.s hg h) o_M_pause rfl (lay_O hg rfl) (k_919 C.w) rfl ⟨by decide, by decide, by show ca ≤ 601024; omega, by show cb ≤ 7293034; omega⟩ rfl rfl (Nat.le_of_ble_eq_true rfl) d_L_law_553 rfl ?_
        intro r90 μ89 h
        refine r_icmp_eq (tgt := 865) (pc := 556) C d_L_law_556 (by decide) ?_ ?_
        · intro hc; replace h := h.1 hc
          refine r_iinc (pc := 865) (v := 4) (lv' := [(0, .inr (.inr ())), (1, .inr (.inl (some 0))), (2, .inr (.inl (some 17))), (3, .inr (.inl (some 34)))]) C d_L_law_865 4 rfl (by decide) (by decide) rfl ?_
          refine r_goto (tgt := 23) (pc := 868) C d_L_law_868 (by decide) ?_
          refine r_sub [1, 2, 3, 4, 0] rfl ?_
          exact hk23 (l4 + 4) μ89 h
        · intro hc; replace h := h.2 hc
          refine r_iconst (pc := 559) C d_L_law_559 (v := 0) (by decide) ?_
          exact r_zret (pc := 560) C Q (Or.inl rfl) d_L_law_560 (by show ca ≤ 601024; omega) (by show cb ≤ 7293034; omega) h
      · intro hc; replace h := h.2 hc
        refine r_iconst (pc := 548) C d_L_law_548 (v := 1) (by decide) ?_
        refine r_goto (tgt := 553) (pc := 549) C d_L_law_549 (by decide) ?_
        refine r_cVi (pc := 553) (a' := ca) (b' := cb) (As := [.inl 1]) (ci := 6) C (c_M_pause C.s hg h) o_M_pause rfl (lay_O hg rfl) (k_919 C.w) rfl ⟨by decide, by decide, by show ca ≤ 601024; omega, by show cb ≤ 7293034; omega⟩ rfl rfl (Nat.le_of_ble_eq_true rfl) d_L_law_553 rfl ?_
        intro r92 μ91 h
        refine r_icmp_eq (tgt := 865) (pc := 556) C d_L_law_556 (by decide) ?_ ?_
        · intro hc; replace h := h.1 hc
          refine r_iinc (pc := 865) (v := 4) (lv' := [(0, .inr (.inr ())), (1, .inr (.inl (some 0))), (2, .inr (.inl (some 17))), (3, .inr (.inl (some 34)))]) C d_L_law_865 4 rfl (by decide) (by decide) rfl ?_
          refine r_goto (tgt := 23) (pc := 868) C d_L_law_868 (by decide) ?_
          refine r_sub [1, 2, 3, 4, 0] rfl ?_
          exact hk23 (l4 + 4) μ91 h
        · intro hc; replace h := h.2 hc
          refine r_iconst (pc := 559) C d_L_law_559 (v := 0) (by decide) ?_
          exact r_zret (pc := 560) C Q (Or.inl rfl) d_L_law_560 (by show ca ≤ 601024; omega) (by show cb ≤ 7293034; omega) h
    unfold wL_law_23 at h
    refine r_iload (pc := 23) C d_L_law_23 4 rfl ?_
    refine r_aloadS (pc := 25) C d_L_law_25 rfl 0 rfl ?_
    refine r_slen (pc := 26) C d_L_law_26 ?_
    refine r_iconst (pc := 27) C d_L_law_27 (v := 4) (by decide) ?_
    refine r_isub (pc := 28) C d_L_law_28 ?_
    refine r_icmp_gt (tgt := 871) (pc := 29) C d_L_law_29 (by decide) ?_ ?_
    · intro hc; replace h := h.1 hc
      refine r_sub [] rfl ?_
      refine r_iconst (pc := 871) C d_L_law_871 (v := 1) (by decide) ?_
      exact r_zret (pc := 872) C Q (Or.inr rfl) d_L_law_872 (by show ca ≤ 601024; omega) (by show cb ≤ 7293034; omega) (hk l4 μ h)
    · intro hc; replace h := h.2 hc
      refine r_aloadS (pc := 32) C d_L_law_32 rfl 0 rfl ?_
      refine r_iload (pc := 33) C d_L_law_33 4 rfl ?_
      obtain ⟨b13, h⟩ := h
      refine r_sld (pc := 35) C b13 d_L_law_35 ?_
      refine r_bipush (pc := 36) C d_L_law_36 (v := 15) (by decide) ?_
      refine r_iand (pc := 38) C d_L_law_38 ?_
      by_cases hs0 : ((gx G) (l4).toNatClampNeg) &&& 15 = 0
      · replace h := h.1 hs0
        refine r_tin (tgt := 104) (pc := 39) C d_L_law_39 hs0 (by decide) (by decide) (by rfl) (by decide) ?_
        refine r_aload_n (pc := 104) C d_L_law_104 rfl 1 rfl ?_
        refine r_aloadS (pc := 105) C d_L_law_105 rfl 0 rfl ?_
        refine r_iload (pc := 106) C d_L_law_106 4 rfl ?_
        refine r_iconst (pc := 108) C d_L_law_108 (v := 1) (by decide) ?_
        refine r_iadd (pc := 109) C d_L_law_109 ?_
        obtain ⟨b14, h⟩ := h
        refine r_sld (pc := 110) C b14 d_L_law_110 ?_
        refine r_aloadS (pc := 111) C d_L_law_111 rfl 0 rfl ?_
        refine r_iload (pc := 112) C d_L_law_112 4 rfl ?_
        refine r_iconst (pc := 114) C d_L_law_114 (v := 2) (by decide) ?_
        refine r_iadd (pc := 115) C d_L_law_115 ?_
        obtain ⟨b15, h⟩ := h
        refine r_sld (pc := 116) C b15 d_L_law_116 ?_
        refine r_aloadS (pc := 117) C d_L_law_117 rfl 0 rfl ?_
        refine r_iload (pc := 118) C d_L_law_118 4 rfl ?_
        refine r_iconst (pc := 120) C d_L_law_120 (v := 3) (by decide) ?_
        refine r_iadd (pc := 121) C d_L_law_121 ?_
        obtain ⟨b16, h⟩ := h
        refine r_sld (pc := 122) C b16 d_L_law_122 ?_
        refine r_aload_n (pc := 123) C d_L_law_123 rfl 3 rfl ?_
        refine r_cWi (pc := 124) (a' := (ca + 3)) (b' := (cb + 31)) (As := [.inr (.inl (some 0)), .inl ((gx G) (l4 + 1).toNatClampNeg), .inl ((gx G) (l4 + 2).toNatClampNeg), .inl ((gx G) (l4 + 3).toNatClampNeg), .inr (.inl (some 34))]) C (c_L_allocate C.s hg h) o_L_allocate (k_346 C.w) rfl ⟨by decide, by decide, by show (ca + 3) ≤ 601024; omega, by show (cb + 31) ≤ 7293034; omega⟩ rfl rfl (Nat.le_of_ble_eq_true rfl) d_L_law_124 rfl ?_
        intro r18 μ17 h
        refine r_istore (pc := 127) (lv' := [(0, .inr (.inr ())), (1, .inr (.inl (some 0))), (2, .inr (.inl (some 17))), (3, .inr (.inl (some 34))), (4, .inl l4)]) C d_L_law_127 (by decide) rfl ?_
        refine r_aload_n (pc := 129) C d_L_law_129 rfl 3 rfl ?_
        refine r_aloadS (pc := 130) C d_L_law_130 rfl 1 rfl ?_
        refine r_iload (pc := 131) C d_L_law_131 5 rfl ?_
        refine r_iconst (pc := 133) C d_L_law_133 (v := 1) (by decide) ?_
        refine r_iadd (pc := 134) C d_L_law_134 ?_
        obtain ⟨b19, h⟩ := h
        refine r_sld (pc := 135) C b19 d_L_law_135 ?_
        refine r_aloadS (pc := 136) C d_L_law_136 rfl 1 rfl ?_
        refine r_iload (pc := 137) C d_L_law_137 5 rfl ?_
        refine r_iconst (pc := 139) C d_L_law_139 (v := 2) (by decide) ?_
        refine r_iadd (pc := 140) C d_L_law_140 ?_
        obtain ⟨b20, h⟩ := h
        refine r_sld (pc := 141) C b20 d_L_law_141 ?_
        refine r_aloadS (pc := 142) C d_L_law_142 rfl 1 rfl ?_
        refine r_iload (pc := 143) C d_L_law_143 5 rfl ?_
        refine r_iconst (pc := 145) C d_L_law_145 (v := 3) (by decide) ?_
        refine r_iadd (pc := 146) C d_L_law_146 ?_
        obtain ⟨b21, h⟩ := h
        refine r_sld (pc := 147) C b21 d_L_law_147 ?_
        refine r_cVi (pc := 148) (a' := (ca + 3)) (b' := (cb + 31)) (As := [.inl ((gx G) (l4 + 1).toNatClampNeg), .inl ((gx G) (l4 + 2).toNatClampNeg), .inl ((gx G) (l4 + 3).toNatClampNeg)]) (ci := 6) C (c_M_allocate C.s hg h) o_M_allocate rfl (lay_O hg rfl) (k_748 C.w) rfl ⟨by decide, by decide, by show (ca + 3) ≤ 601024; omega, by show (cb + 31) ≤ 7293034; omega⟩ rfl rfl (Nat.le_of_ble_eq_true rfl) d_L_law_148 rfl ?_
        intro r23 μ22 h
        refine r_istore (pc := 151) (lv' := [(5, .inl r18), (0, .inr (.inr ())), (1, .inr (.inl (some 0))), (2, .inr (.inl (some 17))), (3, .inr (.inl (some 34))), (4, .inl l4)]) C d_L_law_151 (by decide) rfl ?_
        refine r_aload_n (pc := 153) C d_L_law_153 rfl 4 rfl ?_
        refine r_cVi (pc := 154) (a' := (ca + 3)) (b' := (cb + 31)) (As := []) (ci := 6) C (c_M_thrown C.s hg h) o_M_thrown rfl (lay_O hg rfl) (k_744 C.w) rfl ⟨by decide, by decide, by show (ca + 3) ≤ 601024; omega, by show (cb + 31) ≤ 7293034; omega⟩ rfl rfl (Nat.le_of_ble_eq_true rfl) d_L_law_154 rfl ?_
        intro r25 μ24 h
        refine r_iload (pc := 157) C d_L_law_157 1 rfl ?_
        refine r_icmp_eq (tgt := 164) (pc := 159) C d_L_law_159 (by decide) ?_ ?_
        · intro hc; replace h := h.1 hc
          refine r_iload (pc := 164) C d_L_law_164 1 rfl ?_
          refine r_if_ne (tgt := 181) (pc := 166) C d_L_law_166 (by decide) ?_ ?_
          · intro hc; replace h := h.2 hc
            refine r_goto (tgt := 865) (pc := 181) C d_L_law_181 (by decide) ?_
            refine r_iinc (pc := 865) (v := 4) (lv' := [(6, .inl r23), (5, .inl r18), (0, .inr (.inr ())), (1, .inr (.inl (some 0))), (2, .inr (.inl (some 17))), (3, .inr (.inl (some 34)))]) C d_L_law_865 6 rfl (by decide) (by decide) rfl ?_
            refine r_goto (tgt := 23) (pc := 868) C d_L_law_868 (by decide) ?_
            refine r_sub [3, 4, 5, 6, 0] rfl ?_
            refine r_widen (a' := ca + 3) (b' := cb + 31) (by omega) (by omega) ?_
            exact ih (ca + 3) (cb + 31) (by omega) (by omega) (l4 + 4) μ24 h
          · intro hc; replace h := h.1 hc
            refine r_aload_n (pc := 169) C d_L_law_169 rfl 5 rfl ?_
            refine r_iconst (pc := 170) C d_L_law_170 (v := 0) (by decide) ?_
            obtain ⟨b26, h⟩ := h
            refine r_lald (pc := 171) C (lay_A hg rfl) b26 d_L_law_171 ?_
            refine r_iload (pc := 172) C d_L_law_172 0 rfl ?_
            refine r_i2l (pc := 174) C d_L_law_174 ?_
            refine r_lcmp (pc := 175) C d_L_law_175 ?_
            refine r_if_eq (tgt := 181) (pc := 176) C d_L_law_176 (by decide) ?_ ?_
            · intro hc; replace h := h.1 hc
              refine r_goto (tgt := 865) (pc := 181) C d_L_law_181 (by decide) ?_
              refine r_iinc (pc := 865) (v := 4) (lv' := [(6, .inl r23), (5, .inl r18), (0, .inr (.inr ())), (1, .inr (.inl (some 0))), (2, .inr (.inl (some 17))), (3, .inr (.inl (some 34)))]) C d_L_law_865 6 rfl (by decide) (by decide) rfl ?_
              refine r_goto (tgt := 23) (pc := 868) C d_L_law_868 (by decide) ?_
              refine r_sub [3, 4, 5, 6, 0] rfl ?_
              refine r_widen (a' := ca + 3) (b' := cb + 31) (by omega) (by omega) ?_
              exact ih (ca + 3) (cb + 31) (by omega) (by omega) (l4 + 4) μ24 h
            · intro hc; replace h := h.2 hc
              refine r_iconst (pc := 179) C d_L_law_179 (v := 0) (by decide) ?_
              exact r_zret (pc := 180) C Q (Or.inl rfl) d_L_law_180 (by show (ca + 3) ≤ 601024; omega) (by show (cb + 31) ≤ 7293034; omega) h
        · intro hc; replace h := h.2 hc
          refine r_iconst (pc := 162) C d_L_law_162 (v := 0) (by decide) ?_
          exact r_zret (pc := 163) C Q (Or.inl rfl) d_L_law_163 (by show (ca + 3) ≤ 601024; omega) (by show (cb + 31) ≤ 7293034; omega) h
      by_cases hs1 : ((gx G) (l4).toNatClampNeg) &&& 15 = 1
      · replace h := h.2.1 hs1
        refine r_tin (tgt := 184) (pc := 39) C d_L_law_39 hs1 (by decide) (by decide) (by rfl) (by decide) ?_
        refine r_aload_n (pc := 184) C d_L_law_184 rfl 1 rfl ?_
        refine r_aloadS (pc := 185) C d_L_law_185 rfl 0 rfl ?_
        refine r_iload (pc := 186) C d_L_law_186 4 rfl ?_
        refine r_iconst (pc := 188) C d_L_law_188 (v := 1) (by decide) ?_
        refine r_iadd (pc := 189) C d_L_law_189 ?_
        obtain ⟨b27, h⟩ := h
        refine r_sld (pc := 190) C b27 d_L_law_190 ?_
        refine r_cWi (pc := 191) (a' := (ca + 1)) (b' := (cb + 6)) (As := [.inr (.inl (some 0)), .inl ((gx G) (l4 + 1).toNatClampNeg)]) C (c_L_drop C.s hg h) o_L_drop (k_490 C.w) rfl ⟨by decide, by decide, by show (ca + 1) ≤ 601024; omega, by show (cb + 6) ≤ 7293034; omega⟩ rfl rfl (Nat.le_of_ble_eq_true rfl) d_L_law_191 rfl ?_
        intro r29 μ28 h
        refine r_istore (pc := 194) (lv' := [(0, .inr (.inr ())), (1, .inr (.inl (some 0))), (2, .inr (.inl (some 17))), (3, .inr (.inl (some 34))), (4, .inl l4)]) C d_L_law_194 (by decide) rfl ?_
        refine r_aload_n (pc := 196) C d_L_law_196 rfl 3 rfl ?_
        refine r_aloadS (pc := 197) C d_L_law_197 rfl 1 rfl ?_
        refine r_iload (pc := 198) C d_L_law_198 5 rfl ?_
        refine r_iconst (pc := 200) C d_L_law_200 (v := 1) (by decide) ?_
        refine r_iadd (pc := 201) C d_L_law_201 ?_
        obtain ⟨b30, h⟩ := h
        refine r_sld (pc := 202) C b30 d_L_law_202 ?_
        refine r_cVv (pc := 203) (a' := (ca + 1)) (b' := (cb + 6)) (As := [.inl ((gx G) (l4 + 1).toNatClampNeg)]) (ci := 6) C (c_M_drop C.s hg h) o_M_drop rfl (lay_O hg rfl) (k_887 C.w) rfl ⟨by decide, by decide, by show (ca + 1) ≤ 601024; omega, by show (cb + 6) ≤ 7293034; omega⟩ rfl rfl (Nat.le_of_ble_eq_true rfl) d_L_law_203 rfl ?_
        intro μ31 h
        refine r_aload_n (pc := 206) C d_L_law_206 rfl 3 rfl ?_
        refine r_cVi (pc := 207) (a' := (ca + 1)) (b' := (cb + 6)) (As := []) (ci := 6) C (c_M_thrown C.s hg h) o_M_thrown rfl (lay_O hg rfl) (k_744 C.w) rfl ⟨by decide, by decide, by show (ca + 1) ≤ 601024; omega, by show (cb + 6) ≤ 7293034; omega⟩ rfl rfl (Nat.le_of_ble_eq_true rfl) d_L_law_207 rfl ?_
        intro r33 μ32 h
        refine r_iload (pc := 210) C d_L_law_210 0 rfl ?_
        refine r_icmp_eq (tgt := 217) (pc := 212) C d_L_law_212 (by decide) ?_ ?_
        · intro hc; replace h := h.1 hc
          refine r_goto (tgt := 865) (pc := 217) C d_L_law_217 (by decide) ?_
          refine r_iinc (pc := 865) (v := 4) (lv' := [(5, .inl r29), (0, .inr (.inr ())), (1, .inr (.inl (some 0))), (2, .inr (.inl (some 17))), (3, .inr (.inl (some 34)))]) C d_L_law_865 5 rfl (by decide) (by decide) rfl ?_
          refine r_goto (tgt := 23) (pc := 868) C d_L_law_868 (by decide) ?_
          refine r_sub [2, 3, 4, 5, 0] rfl ?_
          refine r_widen (a' := ca + 3) (b' := cb + 31) (by omega) (by omega) ?_
          exact ih (ca + 3) (cb + 31) (by omega) (by omega) (l4 + 4) μ32 h
        · intro hc; replace h := h.2 hc
          refine r_iconst (pc := 215) C d_L_law_215 (v := 0) (by decide) ?_
          exact r_zret (pc := 216) C Q (Or.inl rfl) d_L_law_216 (by show (ca + 1) ≤ 601024; omega) (by show (cb + 6) ≤ 7293034; omega) h
      by_cases hs2 : ((gx G) (l4).toNatClampNeg) &&& 15 = 2
      · replace h := h.2.2.1 hs2
        refine r_tin (tgt := 220) (pc := 39) C d_L_law_39 hs2 (by decide) (by decide) (by rfl) (by decide) ?_
        refine r_aload_n (pc := 220) C d_L_law_220 rfl 1 rfl ?_
        refine r_aloadS (pc := 221) C d_L_law_221 rfl 0 rfl ?_
        refine r_iload (pc := 222) C d_L_law_222 4 rfl ?_
        refine r_iconst (pc := 224) C d_L_law_224 (v := 1) (by decide) ?_
        refine r_iadd (pc := 225) C d_L_law_225 ?_
        obtain ⟨b34, h⟩ := h
        refine r_sld (pc := 226) C b34 d_L_law_226 ?_
        refine r_aloadS (pc := 227) C d_L_law_227 rfl 0 rfl ?_
        refine r_iload (pc := 228) C d_L_law_228 4 rfl ?_
        refine r_iconst (pc := 230) C d_L_law_230 (v := 2) (by decide) ?_
        refine r_iadd (pc := 231) C d_L_law_231 ?_
        obtain ⟨b35, h⟩ := h
        refine r_sld (pc := 232) C b35 d_L_law_232 ?_
        refine r_cWi (pc := 233) (a' := (ca + 1)) (b' := (cb + 6)) (As := [.inr (.inl (some 0)), .inl ((gx G) (l4 + 1).toNatClampNeg), .inl ((gx G) (l4 + 2).toNatClampNeg)]) C (c_L_copy C.s hg h) o_L_copy (k_497 C.w) rfl ⟨by decide, by decide, by show (ca + 1) ≤ 601024; omega, by show (cb + 6) ≤ 7293034; omega⟩ rfl rfl (Nat.le_of_ble_eq_true rfl) d_L_law_233 rfl ?_
        intro r37 μ36 h
        refine r_istore (pc := 236) (lv' := [(0, .inr (.inr ())), (1, .inr (.inl (some 0))), (2, .inr (.inl (some 17))), (3, .inr (.inl (some 34))), (4, .inl l4)]) C d_L_law_236 (by decide) rfl ?_
        refine r_aload_n (pc := 238) C d_L_law_238 rfl 3 rfl ?_
        refine r_aloadS (pc := 239) C d_L_law_239 rfl 1 rfl ?_
        refine r_iload (pc := 240) C d_L_law_240 5 rfl ?_
        refine r_iconst (pc := 242) C d_L_law_242 (v := 1) (by decide) ?_
        refine r_iadd (pc := 243) C d_L_law_243 ?_
        obtain ⟨b38, h⟩ := h
        refine r_sld (pc := 244) C b38 d_L_law_244 ?_
        refine r_aloadS (pc := 245) C d_L_law_245 rfl 1 rfl ?_
        refine r_iload (pc := 246) C d_L_law_246 5 rfl ?_
        refine r_iconst (pc := 248) C d_L_law_248 (v := 2) (by decide) ?_
        refine r_iadd (pc := 249) C d_L_law_249 ?_
        obtain ⟨b39, h⟩ := h
        refine r_sld (pc := 250) C b39 d_L_law_250 ?_
        refine r_cVv (pc := 251) (a' := (ca + 1)) (b' := (cb + 6)) (As := [.inl ((gx G) (l4 + 1).toNatClampNeg), .inl ((gx G) (l4 + 2).toNatClampNeg)]) (ci := 6) C (c_M_copy C.s hg h) o_M_copy rfl (lay_O hg rfl) (k_891 C.w) rfl ⟨by decide, by decide, by show (ca + 1) ≤ 601024; omega, by show (cb + 6) ≤ 7293034; omega⟩ rfl rfl (Nat.le_of_ble_eq_true rfl) d_L_law_251 rfl ?_
        intro μ40 h
        refine r_aload_n (pc := 254) C d_L_law_254 rfl 3 rfl ?_
        refine r_cVi (pc := 255) (a' := (ca + 1)) (b' := (cb + 6)) (As := []) (ci := 6) C (c_M_thrown C.s hg h) o_M_thrown rfl (lay_O hg rfl) (k_744 C.w) rfl ⟨by decide, by decide, by show (ca + 1) ≤ 601024; omega, by show (cb + 6) ≤ 7293034; omega⟩ rfl rfl (Nat.le_of_ble_eq_true rfl) d_L_law_255 rfl ?_
        intro r42 μ41 h
        refine r_iload (pc := 258) C d_L_law_258 0 rfl ?_
        refine r_icmp_eq (tgt := 265) (pc := 260) C d_L_law_260 (by decide) ?_ ?_
        · intro hc; replace h := h.1 hc
          refine r_goto (tgt := 865) (pc := 265) C d_L_law_265 (by decide) ?_
          refine r_iinc (pc := 865) (v := 4) (lv' := [(5, .inl r37), (0, .inr (.inr ())), (1, .inr (.inl (some 0))), (2, .inr (.inl (some 17))), (3, .inr (.inl (some 34)))]) C d_L_law_865 5 rfl (by decide) (by decide) rfl ?_
          refine r_goto (tgt := 23) (pc := 868) C d_L_law_868 (by decide) ?_
          refine r_sub [2, 3, 4, 5, 0] rfl ?_
          refine r_widen (a' := ca + 3) (b' := cb + 31) (by omega) (by omega) ?_
          exact ih (ca + 3) (cb + 31) (by omega) (by omega) (l4 + 4) μ41 h
        · intro hc; replace h := h.2 hc
          refine r_iconst (pc := 263) C d_L_law_263 (v := 0) (by decide) ?_
          exact r_zret (pc := 264) C Q (Or.inl rfl) d_L_law_264 (by show (ca + 1) ≤ 601024; omega) (by show (cb + 6) ≤ 7293034; omega) h
      by_cases hs3 : ((gx G) (l4).toNatClampNeg) &&& 15 = 3
      · replace h := h.2.2.2.1 hs3
        refine r_tin (tgt := 268) (pc := 39) C d_L_law_39 hs3 (by decide) (by decide) (by rfl) (by decide) ?_
        refine r_aload_n (pc := 268) C d_L_law_268 rfl 1 rfl ?_
        refine r_aloadS (pc := 269) C d_L_law_269 rfl 0 rfl ?_
        refine r_iload (pc := 270) C d_L_law_270 4 rfl ?_
        refine r_iconst (pc := 272) C d_L_law_272 (v := 1) (by decide) ?_
        refine r_iadd (pc := 273) C d_L_law_273 ?_
        obtain ⟨b43, h⟩ := h
        refine r_sld (pc := 274) C b43 d_L_law_274 ?_
        refine r_aloadS (pc := 275) C d_L_law_275 rfl 0 rfl ?_
        refine r_iload (pc := 276) C d_L_law_276 4 rfl ?_
        refine r_iconst (pc := 278) C d_L_law_278 (v := 2) (by decide) ?_
        refine r_iadd (pc := 279) C d_L_law_279 ?_
        obtain ⟨b44, h⟩ := h
        refine r_sld (pc := 280) C b44 d_L_law_280 ?_
        refine r_aloadS (pc := 281) C d_L_law_281 rfl 0 rfl ?_
        refine r_iload (pc := 282) C d_L_law_282 4 rfl ?_
        refine r_iconst (pc := 284) C d_L_law_284 (v := 3) (by decide) ?_
        refine r_iadd (pc := 285) C d_L_law_285 ?_
        obtain ⟨b45, h⟩ := h
        refine r_sld (pc := 286) C b45 d_L_law_286 ?_
        refine r_aload_n (pc := 287) C d_L_law_287 rfl 3 rfl ?_
        refine r_cWi (pc := 288) (a' := (ca + 1)) (b' := (cb + 6)) (As := [.inr (.inl (some 0)), .inl ((gx G) (l4 + 1).toNatClampNeg), .inl ((gx G) (l4 + 2).toNatClampNeg), .inl ((gx G) (l4 + 3).toNatClampNeg), .inr (.inl (some 34))]) C (c_L_load C.s hg h) o_L_load (k_504 C.w) rfl ⟨by decide, by decide, by show (ca + 1) ≤ 601024; omega, by show (cb + 6) ≤ 7293034; omega⟩ rfl rfl (Nat.le_of_ble_eq_true rfl) d_L_law_288 rfl ?_
        intro r47 μ46 h
        refine r_istore (pc := 291) (lv' := [(0, .inr (.inr ())), (1, .inr (.inl (some 0))), (2, .inr (.inl (some 17))), (3, .inr (.inl (some 34))), (4, .inl l4)]) C d_L_law_291 (by decide) rfl ?_
        refine r_aload_n (pc := 293) C d_L_law_293 rfl 3 rfl ?_
        refine r_aloadS (pc := 294) C d_L_law_294 rfl 1 rfl ?_
        refine r_iload (pc := 295) C d_L_law_295 5 rfl ?_
        refine r_iconst (pc := 297) C d_L_law_297 (v := 1) (by decide) ?_
        refine r_iadd (pc := 298) C d_L_law_298 ?_
        obtain ⟨b48, h⟩ := h
        refine r_sld (pc := 299) C b48 d_L_law_299 ?_
        refine r_aloadS (pc := 300) C d_L_law_300 rfl 1 rfl ?_
        refine r_iload (pc := 301) C d_L_law_301 5 rfl ?_
        refine r_iconst (pc := 303) C d_L_law_303 (v := 2) (by decide) ?_
        refine r_iadd (pc := 304) C d_L_law_304 ?_
        obtain ⟨b49, h⟩ := h
        refine r_sld (pc := 305) C b49 d_L_law_305 ?_
        refine r_aloadS (pc := 306) C d_L_law_306 rfl 1 rfl ?_
        refine r_iload (pc := 307) C d_L_law_307 5 rfl ?_
        refine r_iconst (pc := 309) C d_L_law_309 (v := 3) (by decide) ?_
        refine r_iadd (pc := 310) C d_L_law_310 ?_
        obtain ⟨b50, h⟩ := h
        refine r_sld (pc := 311) C b50 d_L_law_311 ?_
        refine r_cVi (pc := 312) (a' := (ca + 1)) (b' := (cb + 6)) (As := [.inl ((gx G) (l4 + 1).toNatClampNeg), .inl ((gx G) (l4 + 2).toNatClampNeg), .inl ((gx G) (l4 + 3).toNatClampNeg)]) (ci := 6) C (c_M_load C.s hg h) o_M_load rfl (lay_O hg rfl) (k_895 C.w) rfl ⟨by decide, by decide, by show (ca + 1) ≤ 601024; omega, by show (cb + 6) ≤ 7293034; omega⟩ rfl rfl (Nat.le_of_ble_eq_true rfl) d_L_law_312 rfl ?_
        intro r52 μ51 h
        refine r_istore (pc := 315) (lv' := [(5, .inl r47), (0, .inr (.inr ())), (1, .inr (.inl (some 0))), (2, .inr (.inl (some 17))), (3, .inr (.inl (some 34))), (4, .inl l4)]) C d_L_law_315 (by decide) rfl ?_
        refine r_aload_n (pc := 317) C d_L_law_317 rfl 4 rfl ?_
        refine r_cVi (pc := 318) (a' := (ca + 1)) (b' := (cb + 6)) (As := []) (ci := 6) C (c_M_thrown C.s hg h) o_M_thrown rfl (lay_O hg rfl) (k_744 C.w) rfl ⟨by decide, by decide, by show (ca + 1) ≤ 601024; omega, by show (cb + 6) ≤ 7293034; omega⟩ rfl rfl (Nat.le_of_ble_eq_true rfl) d_L_law_318 rfl ?_
        intro r54 μ53 h
        refine r_iload (pc := 321) C d_L_law_321 1 rfl ?_
        refine r_icmp_eq (tgt := 328) (pc := 323) C d_L_law_323 (by decide) ?_ ?_
        · intro hc; replace h := h.1 hc
          refine r_iload (pc := 328) C d_L_law_328 1 rfl ?_
          refine r_if_ne (tgt := 345) (pc := 330) C d_L_law_330 (by decide) ?_ ?_
          · intro hc; replace h := h.2 hc
            refine r_goto (tgt := 865) (pc := 345) C d_L_law_345 (by decide) ?_
            refine r_iinc (pc := 865) (v := 4) (lv' := [(6, .inl r52), (5, .inl r47), (0, .inr (.inr ())), (1, .inr (.inl (some 0))), (2, .inr (.inl (some 17))), (3, .inr (.inl (some 34)))]) C d_L_law_865 6 rfl (by decide) (by decide) rfl ?_
            refine r_goto (tgt := 23) (pc := 868) C d_L_law_868 (by decide) ?_
            refine r_sub [3, 4, 5, 6, 0] rfl ?_
            refine r_widen (a' := ca + 3) (b' := cb + 31) (by omega) (by omega) ?_
            exact ih (ca + 3) (cb + 31) (by omega) (by omega) (l4 + 4) μ53 h
          · intro hc; replace h := h.1 hc
            refine r_aload_n (pc := 333) C d_L_law_333 rfl 5 rfl ?_
            refine r_iconst (pc := 334) C d_L_law_334 (v := 0) (by decide) ?_
            obtain ⟨b55, h⟩ := h
            refine r_lald (pc := 335) C (lay_A hg rfl) b55 d_L_law_335 ?_
            refine r_iload (pc := 336) C d_L_law_336 0 rfl ?_
            refine r_i2l (pc := 338) C d_L_law_338 ?_
            refine r_lcmp (pc := 339) C d_L_law_339 ?_
            refine r_if_eq (tgt := 345) (pc := 340) C d_L_law_340 (by decide) ?_ ?_
            · intro hc; replace h := h.1 hc
              refine r_goto (tgt := 865) (pc := 345) C d_L_law_345 (by decide) ?_
              refine r_iinc (pc := 865) (v := 4) (lv' := [(6, .inl r52), (5, .inl r47), (0, .inr (.inr ())), (1, .inr (.inl (some 0))), (2, .inr (.inl (some 17))), (3, .inr (.inl (some 34)))]) C d_L_law_865 6 rfl (by decide) (by decide) rfl ?_
              refine r_goto (tgt := 23) (pc := 868) C d_L_law_868 (by decide) ?_
              refine r_sub [3, 4, 5, 6, 0] rfl ?_
              refine r_widen (a' := ca + 3) (b' := cb + 31) (by omega) (by omega) ?_
              exact ih (ca + 3) (cb + 31) (by omega) (by omega) (l4 + 4) μ53 h
            · intro hc; replace h := h.2 hc
              refine r_iconst (pc := 343) C d_L_law_343 (v := 0) (by decide) ?_
              exact r_zret (pc := 344) C Q (Or.inl rfl) d_L_law_344 (by show (ca + 1) ≤ 601024; omega) (by show (cb + 6) ≤ 7293034; omega) h
        · intro hc; replace h := h.2 hc
          refine r_iconst (pc := 326) C d_L_law_326 (v := 0) (by decide) ?_
          exact r_zret (pc := 327) C Q (Or.inl rfl) d_L_law_327 (by show (ca + 1) ≤ 601024; omega) (by show (cb + 6) ≤ 7293034; omega) h
      by_cases hs4 : ((gx G) (l4).toNatClampNeg) &&& 15 = 4
      · replace h := h.2.2.2.2.1 hs4
        refine r_tin (tgt := 348) (pc := 39) C d_L_law_39 hs4 (by decide) (by decide) (by rfl) (by decide) ?_
        refine r_aload_n (pc := 348) C d_L_law_348 rfl 1 rfl ?_
        refine r_aloadS (pc := 349) C d_L_law_349 rfl 0 rfl ?_
        refine r_iload (pc := 350) C d_L_law_350 4 rfl ?_
        refine r_iconst (pc := 352) C d_L_law_352 (v := 1) (by decide) ?_
        refine r_iadd (pc := 353) C d_L_law_353 ?_
        obtain ⟨b56, h⟩ := h
        refine r_sld (pc := 354) C b56 d_L_law_354 ?_
        refine r_aloadS (pc := 355) C d_L_law_355 rfl 0 rfl ?_
        refine r_iload (pc := 356) C d_L_law_356 4 rfl ?_
        refine r_iconst (pc := 358) C d_L_law_358 (v := 2) (by decide) ?_
        refine r_iadd (pc := 359) C d_L_law_359 ?_
        obtain ⟨b57, h⟩ := h
        refine r_sld (pc := 360) C b57 d_L_law_360 ?_
        refine r_aloadS (pc := 361) C d_L_law_361 rfl 0 rfl ?_
        refine r_iload (pc := 362) C d_L_law_362 4 rfl ?_
        refine r_iconst (pc := 364) C d_L_law_364 (v := 3) (by decide) ?_
        refine r_iadd (pc := 365) C d_L_law_365 ?_
        obtain ⟨b58, h⟩ := h
        refine r_sld (pc := 366) C b58 d_L_law_366 ?_
        refine r_cWi (pc := 367) (a' := (ca + 1)) (b' := (cb + 6)) (As := [.inr (.inl (some 0)), .inl ((gx G) (l4 + 1).toNatClampNeg), .inl ((gx G) (l4 + 2).toNatClampNeg), .inl ((gx G) (l4 + 3).toNatClampNeg)]) C (c_L_store C.s hg h) o_L_store (k_554 C.w) rfl ⟨by decide, by decide, by show (ca + 1) ≤ 601024; omega, by show (cb + 6) ≤ 7293034; omega⟩ rfl rfl (Nat.le_of_ble_eq_true rfl) d_L_law_367 rfl ?_
        intro r60 μ59 h
        refine r_istore (pc := 370) (lv' := [(0, .inr (.inr ())), (1, .inr (.inl (some 0))), (2, .inr (.inl (some 17))), (3, .inr (.inl (some 34))), (4, .inl l4)]) C d_L_law_370 (by decide) rfl ?_
        refine r_aload_n (pc := 372) C d_L_law_372 rfl 3 rfl ?_
        refine r_aloadS (pc := 373) C d_L_law_373 rfl 1 rfl ?_
        refine r_iload (pc := 374) C d_L_law_374 5 rfl ?_
        refine r_iconst (pc := 376) C d_L_law_376 (v := 1) (by decide) ?_
        refine r_iadd (pc := 377) C d_L_law_377 ?_
        obtain ⟨b61, h⟩ := h
        refine r_sld (pc := 378) C b61 d_L_law_378 ?_
        refine r_aloadS (pc := 379) C d_L_law_379 rfl 1 rfl ?_
        refine r_iload (pc := 380) C d_L_law_380 5 rfl ?_
        refine r_iconst (pc := 382) C d_L_law_382 (v := 2) (by decide) ?_
        refine r_iadd (pc := 383) C d_L_law_383 ?_
        obtain ⟨b62, h⟩ := h
        refine r_sld (pc := 384) C b62 d_L_law_384 ?_
        refine r_aloadS (pc := 385) C d_L_law_385 rfl 1 rfl ?_
        refine r_iload (pc := 386) C d_L_law_386 5 rfl ?_
        refine r_iconst (pc := 388) C d_L_law_388 (v := 3) (by decide) ?_
        refine r_iadd (pc := 389) C d_L_law_389 ?_
        obtain ⟨b63, h⟩ := h
        refine r_sld (pc := 390) C b63 d_L_law_390 ?_
        refine r_cVv (pc := 391) (a' := (ca + 1)) (b' := (cb + 6)) (As := [.inl ((gx G) (l4 + 1).toNatClampNeg), .inl ((gx G) (l4 + 2).toNatClampNeg), .inl ((gx G) (l4 + 3).toNatClampNeg)]) (ci := 6) C (c_M_store C.s hg h) o_M_store rfl (lay_O hg rfl) (k_907 C.w) rfl ⟨by decide, by decide, by show (ca + 1) ≤ 601024; omega, by show (cb + 6) ≤ 7293034; omega⟩ rfl rfl (Nat.le_of_ble_eq_true rfl) d_L_law_391 rfl ?_
        intro μ64 h
        refine r_aload_n (pc := 394) C d_L_law_394 rfl 3 rfl ?_
        refine r_cVi (pc := 395) (a' := (ca + 1)) (b' := (cb + 6)) (As := []) (ci := 6) C (c_M_thrown C.s hg h) o_M_thrown rfl (lay_O hg rfl) (k_744 C.w) rfl ⟨by decide, by decide, by show (ca + 1) ≤ 601024; omega, by show (cb + 6) ≤ 7293034; omega⟩ rfl rfl (Nat.le_of_ble_eq_true rfl) d_L_law_395 rfl ?_
        intro r66 μ65 h
        refine r_iload (pc := 398) C d_L_law_398 0 rfl ?_
        refine r_icmp_eq (tgt := 405) (pc := 400) C d_L_law_400 (by decide) ?_ ?_
        · intro hc; replace h := h.1 hc
          refine r_goto (tgt := 865) (pc := 405) C d_L_law_405 (by decide) ?_
          refine r_iinc (pc := 865) (v := 4) (lv' := [(5, .inl r60), (0, .inr (.inr ())), (1, .inr (.inl (some 0))), (2, .inr (.inl (some 17))), (3, .inr (.inl (some 34)))]) C d_L_law_865 5 rfl (by decide) (by decide) rfl ?_
          refine r_goto (tgt := 23) (pc := 868) C d_L_law_868 (by decide) ?_
          refine r_sub [2, 3, 4, 5, 0] rfl ?_
          refine r_widen (a' := ca + 3) (b' := cb + 31) (by omega) (by omega) ?_
          exact ih (ca + 3) (cb + 31) (by omega) (by omega) (l4 + 4) μ65 h
        · intro hc; replace h := h.2 hc
          refine r_iconst (pc := 403) C d_L_law_403 (v := 0) (by decide) ?_
          exact r_zret (pc := 404) C Q (Or.inl rfl) d_L_law_404 (by show (ca + 1) ≤ 601024; omega) (by show (cb + 6) ≤ 7293034; omega) h
      by_cases hs5 : ((gx G) (l4).toNatClampNeg) &&& 15 = 5
      · replace h := h.2.2.2.2.2.1 hs5
        refine r_tin (tgt := 408) (pc := 39) C d_L_law_39 hs5 (by decide) (by decide) (by rfl) (by decide) ?_
        refine r_aload_n (pc := 408) C d_L_law_408 rfl 1 rfl ?_
        refine r_aloadS (pc := 409) C d_L_law_409 rfl 0 rfl ?_
        refine r_iload (pc := 410) C d_L_law_410 4 rfl ?_
        refine r_iconst (pc := 412) C d_L_law_412 (v := 1) (by decide) ?_
        refine r_iadd (pc := 413) C d_L_law_413 ?_
        obtain ⟨b67, h⟩ := h
        refine r_sld (pc := 414) C b67 d_L_law_414 ?_
        refine r_aload_n (pc := 415) C d_L_law_415 rfl 3 rfl ?_
        refine r_cWi (pc := 416) (a' := (ca + 1)) (b' := (cb + 6)) (As := [.inr (.inl (some 0)), .inl ((gx G) (l4 + 1).toNatClampNeg), .inr (.inl (some 34))]) C (c_L_drain C.s hg h) o_L_drain (k_565 C.w) rfl ⟨by decide, by decide, by show (ca + 1) ≤ 601024; omega, by show (cb + 6) ≤ 7293034; omega⟩ rfl rfl (Nat.le_of_ble_eq_true rfl) d_L_law_416 rfl ?_
        intro r69 μ68 h
        refine r_istore (pc := 419) (lv' := [(0, .inr (.inr ())), (1, .inr (.inl (some 0))), (2, .inr (.inl (some 17))), (3, .inr (.inl (some 34))), (4, .inl l4)]) C d_L_law_419 (by decide) rfl ?_
        refine r_aload_n (pc := 421) C d_L_law_421 rfl 3 rfl ?_
        refine r_aloadS (pc := 422) C d_L_law_422 rfl 1 rfl ?_
        refine r_iload (pc := 423) C d_L_law_423 5 rfl ?_
        refine r_iconst (pc := 425) C d_L_law_425 (v := 1) (by decide) ?_
        refine r_iadd (pc := 426) C d_L_law_426 ?_
        obtain ⟨b70, h⟩ := h
        refine r_sld (pc := 427) C b70 d_L_law_427 ?_
        refine r_cVi (pc := 428) (a' := (ca + 1)) (b' := (cb + 6)) (As := [.inl ((gx G) (l4 + 1).toNatClampNeg)]) (ci := 6) C (c_M_drain C.s hg h) o_M_drain rfl (lay_O hg rfl) (k_911 C.w) rfl ⟨by decide, by decide, by show (ca + 1) ≤ 601024; omega, by show (cb + 6) ≤ 7293034; omega⟩ rfl rfl (Nat.le_of_ble_eq_true rfl) d_L_law_428 rfl ?_
        intro r72 μ71 h
        refine r_istore (pc := 431) (lv' := [(5, .inl r69), (0, .inr (.inr ())), (1, .inr (.inl (some 0))), (2, .inr (.inl (some 17))), (3, .inr (.inl (some 34))), (4, .inl l4)]) C d_L_law_431 (by decide) rfl ?_
        refine r_aload_n (pc := 433) C d_L_law_433 rfl 4 rfl ?_
        refine r_cVi (pc := 434) (a' := (ca + 1)) (b' := (cb + 6)) (As := []) (ci := 6) C (c_M_thrown C.s hg h) o_M_thrown rfl (lay_O hg rfl) (k_744 C.w) rfl ⟨by decide, by decide, by show (ca + 1) ≤ 601024; omega, by show (cb + 6) ≤ 7293034; omega⟩ rfl rfl (Nat.le_of_ble_eq_true rfl) d_L_law_434 rfl ?_
        intro r74 μ73 h
        refine r_iload (pc := 437) C d_L_law_437 1 rfl ?_
        refine r_icmp_eq (tgt := 444) (pc := 439) C d_L_law_439 (by decide) ?_ ?_
        · intro hc; replace h := h.1 hc
          refine r_iload (pc := 444) C d_L_law_444 1 rfl ?_
          refine r_if_ne (tgt := 461) (pc := 446) C d_L_law_446 (by decide) ?_ ?_
          · intro hc; replace h := h.2 hc
            refine r_goto (tgt := 865) (pc := 461) C d_L_law_461 (by decide) ?_
            refine r_iinc (pc := 865) (v := 4) (lv' := [(6, .inl r72), (5, .inl r69), (0, .inr (.inr ())), (1, .inr (.inl (some 0))), (2, .inr (.inl (some 17))), (3, .inr (.inl (some 34)))]) C d_L_law_865 6 rfl (by decide) (by decide) rfl ?_
            refine r_goto (tgt := 23) (pc := 868) C d_L_law_868 (by decide) ?_
            refine r_sub [3, 4, 5, 6, 0] rfl ?_
            refine r_widen (a' := ca + 3) (b' := cb + 31) (by omega) (by omega) ?_
            exact ih (ca + 3) (cb + 31) (by omega) (by omega) (l4 + 4) μ73 h
          · intro hc; replace h := h.1 hc
            refine r_aload_n (pc := 449) C d_L_law_449 rfl 5 rfl ?_
            refine r_iconst (pc := 450) C d_L_law_450 (v := 0) (by decide) ?_
            obtain ⟨b75, h⟩ := h
            refine r_lald (pc := 451) C (lay_A hg rfl) b75 d_L_law_451 ?_
            refine r_iload (pc := 452) C d_L_law_452 0 rfl ?_
            refine r_i2l (pc := 454) C d_L_law_454 ?_
            refine r_lcmp (pc := 455) C d_L_law_455 ?_
            refine r_if_eq (tgt := 461) (pc := 456) C d_L_law_456 (by decide) ?_ ?_
            · intro hc; replace h := h.1 hc
              refine r_goto (tgt := 865) (pc := 461) C d_L_law_461 (by decide) ?_
              refine r_iinc (pc := 865) (v := 4) (lv' := [(6, .inl r72), (5, .inl r69), (0, .inr (.inr ())), (1, .inr (.inl (some 0))), (2, .inr (.inl (some 17))), (3, .inr (.inl (some 34)))]) C d_L_law_865 6 rfl (by decide) (by decide) rfl ?_
              refine r_goto (tgt := 23) (pc := 868) C d_L_law_868 (by decide) ?_
              refine r_sub [3, 4, 5, 6, 0] rfl ?_
              refine r_widen (a' := ca + 3) (b' := cb + 31) (by omega) (by omega) ?_
              exact ih (ca + 3) (cb + 31) (by omega) (by omega) (l4 + 4) μ73 h
            · intro hc; replace h := h.2 hc
              refine r_iconst (pc := 459) C d_L_law_459 (v := 0) (by decide) ?_
              exact r_zret (pc := 460) C Q (Or.inl rfl) d_L_law_460 (by show (ca + 1) ≤ 601024; omega) (by show (cb + 6) ≤ 7293034; omega) h
        · intro hc; replace h := h.2 hc
          refine r_iconst (pc := 442) C d_L_law_442 (v := 0) (by decide) ?_
          exact r_zret (pc := 443) C Q (Or.inl rfl) d_L_law_443 (by show (ca + 1) ≤ 601024; omega) (by show (cb + 6) ≤ 7293034; omega) h
      by_cases hs6 : ((gx G) (l4).toNatClampNeg) &&& 15 = 6
      · replace h := h.2.2.2.2.2.2.1 hs6
        refine r_tin (tgt := 464) (pc := 39) C d_L_law_39 hs6 (by decide) (by decide) (by rfl) (by decide) ?_
        refine r_aload_n (pc := 464) C d_L_law_464 rfl 1 rfl ?_
        refine r_aloadS (pc := 465) C d_L_law_465 rfl 0 rfl ?_
        refine r_iload (pc := 466) C d_L_law_466 4 rfl ?_
        refine r_iconst (pc := 468) C d_L_law_468 (v := 1) (by decide) ?_
        refine r_iadd (pc := 469) C d_L_law_469 ?_
        obtain ⟨b76, h⟩ := h
        refine r_sld (pc := 470) C b76 d_L_law_470 ?_
        refine r_aload_n (pc := 471) C d_L_law_471 rfl 3 rfl ?_
        refine r_cWi (pc := 472) (a' := (ca + 1)) (b' := (cb + 6)) (As := [.inr (.inl (some 0)), .inl ((gx G) (l4 + 1).toNatClampNeg), .inr (.inl (some 34))]) C (c_L_trace C.s hg h) o_L_trace (k_572 C.w) rfl ⟨by decide, by decide, by show (ca + 1) ≤ 601024; omega, by show (cb + 6) ≤ 7293034; omega⟩ rfl rfl (Nat.le_of_ble_eq_true rfl) d_L_law_472 rfl ?_
        intro r78 μ77 h
        refine r_istore (pc := 475) (lv' := [(0, .inr (.inr ())), (1, .inr (.inl (some 0))), (2, .inr (.inl (some 17))), (3, .inr (.inl (some 34))), (4, .inl l4)]) C d_L_law_475 (by decide) rfl ?_
        refine r_aload_n (pc := 477) C d_L_law_477 rfl 3 rfl ?_
        refine r_aloadS (pc := 478) C d_L_law_478 rfl 1 rfl ?_
        refine r_iload (pc := 479) C d_L_law_479 5 rfl ?_
        refine r_iconst (pc := 481) C d_L_law_481 (v := 1) (by decide) ?_
        refine r_iadd (pc := 482) C d_L_law_482 ?_
        obtain ⟨b79, h⟩ := h
        refine r_sld (pc := 483) C b79 d_L_law_483 ?_
        refine r_cVi (pc := 484) (a' := (ca + 1)) (b' := (cb + 6)) (As := [.inl ((gx G) (l4 + 1).toNatClampNeg)]) (ci := 6) C (c_M_trace C.s hg h) o_M_trace rfl (lay_O hg rfl) (k_915 C.w) rfl ⟨by decide, by decide, by show (ca + 1) ≤ 601024; omega, by show (cb + 6) ≤ 7293034; omega⟩ rfl rfl (Nat.le_of_ble_eq_true rfl) d_L_law_484 rfl ?_
        intro r81 μ80 h
        refine r_istore (pc := 487) (lv' := [(5, .inl r78), (0, .inr (.inr ())), (1, .inr (.inl (some 0))), (2, .inr (.inl (some 17))), (3, .inr (.inl (some 34))), (4, .inl l4)]) C d_L_law_487 (by decide) rfl ?_
        refine r_aload_n (pc := 489) C d_L_law_489 rfl 4 rfl ?_
        refine r_cVi (pc := 490) (a' := (ca + 1)) (b' := (cb + 6)) (As := []) (ci := 6) C (c_M_thrown C.s hg h) o_M_thrown rfl (lay_O hg rfl) (k_744 C.w) rfl ⟨by decide, by decide, by show (ca + 1) ≤ 601024; omega, by show (cb + 6) ≤ 7293034; omega⟩ rfl rfl (Nat.le_of_ble_eq_true rfl) d_L_law_490 rfl ?_
        intro r83 μ82 h
        refine r_iload (pc := 493) C d_L_law_493 1 rfl ?_
        refine r_icmp_eq (tgt := 500) (pc := 495) C d_L_law_495 (by decide) ?_ ?_
        · intro hc; replace h := h.1 hc
          refine r_iload (pc := 500) C d_L_law_500 1 rfl ?_
          refine r_if_ne (tgt := 517) (pc := 502) C d_L_law_502 (by decide) ?_ ?_
          · intro hc; replace h := h.2 hc
            refine r_goto (tgt := 865) (pc := 517) C d_L_law_517 (by decide) ?_
            refine r_iinc (pc := 865) (v := 4) (lv' := [(6, .inl r81), (5, .inl r78), (0, .inr (.inr ())), (1, .inr (.inl (some 0))), (2, .inr (.inl (some 17))), (3, .inr (.inl (some 34)))]) C d_L_law_865 6 rfl (by decide) (by decide) rfl ?_
            refine r_goto (tgt := 23) (pc := 868) C d_L_law_868 (by decide) ?_
            refine r_sub [3, 4, 5, 6, 0] rfl ?_
            refine r_widen (a' := ca + 3) (b' := cb + 31) (by omega) (by omega) ?_
            exact ih (ca + 3) (cb + 31) (by omega) (by omega) (l4 + 4) μ82 h
          · intro hc; replace h := h.1 hc
            refine r_aload_n (pc := 505) C d_L_law_505 rfl 5 rfl ?_
            refine r_iconst (pc := 506) C d_L_law_506 (v := 0) (by decide) ?_
            obtain ⟨b84, h⟩ := h
            refine r_lald (pc := 507) C (lay_A hg rfl) b84 d_L_law_507 ?_
            refine r_iload (pc := 508) C d_L_law_508 0 rfl ?_
            refine r_i2l (pc := 510) C d_L_law_510 ?_
            refine r_lcmp (pc := 511) C d_L_law_511 ?_
            refine r_if_eq (tgt := 517) (pc := 512) C d_L_law_512 (by decide) ?_ ?_
            · intro hc; replace h := h.1 hc
              refine r_goto (tgt := 865) (pc := 517) C d_L_law_517 (by decide) ?_
              refine r_iinc (pc := 865) (v := 4) (lv' := [(6, .inl r81), (5, .inl r78), (0, .inr (.inr ())), (1, .inr (.inl (some 0))), (2, .inr (.inl (some 17))), (3, .inr (.inl (some 34)))]) C d_L_law_865 6 rfl (by decide) (by decide) rfl ?_
              refine r_goto (tgt := 23) (pc := 868) C d_L_law_868 (by decide) ?_
              refine r_sub [3, 4, 5, 6, 0] rfl ?_
              refine r_widen (a' := ca + 3) (b' := cb + 31) (by omega) (by omega) ?_
              exact ih (ca + 3) (cb + 31) (by omega) (by omega) (l4 + 4) μ82 h
            · intro hc; replace h := h.2 hc
              refine r_iconst (pc := 515) C d_L_law_515 (v := 0) (by decide) ?_
              exact r_zret (pc := 516) C Q (Or.inl rfl) d_L_law_516 (by show (ca + 1) ≤ 601024; omega) (by show (cb + 6) ≤ 7293034; omega) h
        · intro hc; replace h := h.2 hc
          refine r_iconst (pc := 498) C d_L_law_498 (v := 0) (by decide) ?_
          exact r_zret (pc := 499) C Q (Or.inl rfl) d_L_law_499 (by show (ca + 1) ≤ 601024; omega) (by show (cb + 6) ≤ 7293034; omega) h
      by_cases hs7 : ((gx G) (l4).toNatClampNeg) &&& 15 = 7
      · replace h := h.2.2.2.2.2.2.2.1 hs7
        refine r_tin (tgt := 520) (pc := 39) C d_L_law_39 hs7 (by decide) (by decide) (by rfl) (by decide) ?_
        refine r_aload_n (pc := 520) C d_L_law_520 rfl 1 rfl ?_
        refine r_aloadS (pc := 521) C d_L_law_521 rfl 0 rfl ?_
        refine r_iload (pc := 522) C d_L_law_522 4 rfl ?_
        refine r_iconst (pc := 524) C d_L_law_524 (v := 1) (by decide) ?_
        refine r_iadd (pc := 525) C d_L_law_525 ?_
        obtain ⟨b85, h⟩ := h
        refine r_sld (pc := 526) C b85 d_L_law_526 ?_
        refine r_if_eq (tgt := 534) (pc := 527) C d_L_law_527 (by decide) ?_ ?_
        · intro hc; replace h := h.1 hc
          refine r_iconst (pc := 534) C d_L_law_534 (v := 0) (by decide) ?_
          exact J_535 l4 0 ((wL_law_23 (gL G) (gx G) k post n)) (fun v4 μ h => r_widen (a' := ca + 3) (b' := cb + 31) (by omega) (by omega) (ih (ca + 3) (cb + 31) (by omega) (by omega) v4 μ h)) μ h
        · intro hc; replace h := h.2 hc
          refine r_iconst (pc := 530) C d_L_law_530 (v := 1) (by decide) ?_
          refine r_goto (tgt := 535) (pc := 531) C d_L_law_531 (by decide) ?_
          exact J_535 l4 1 ((wL_law_23 (gL G) (gx G) k post n)) (fun v4 μ h => r_widen (a' := ca + 3) (b' := cb + 31) (by omega) (by omega) (ih (ca + 3) (cb + 31) (by omega) (by omega) v4 μ h)) μ h
      by_cases hs8 : ((gx G) (l4).toNatClampNeg) &&& 15 = 8
      · replace h := h.2.2.2.2.2.2.2.2.1 hs8
        refine r_tin (tgt := 561) (pc := 39) C d_L_law_39 hs8 (by decide) (by decide) (by rfl) (by decide) ?_
        refine r_aload_n (pc := 561) C d_L_law_561 rfl 1 rfl ?_
        refine r_aloadS (pc := 562) C d_L_law_562 rfl 0 rfl ?_
        refine r_iload (pc := 563) C d_L_law_563 4 rfl ?_
        refine r_iconst (pc := 565) C d_L_law_565 (v := 1) (by decide) ?_
        refine r_iadd (pc := 566) C d_L_law_566 ?_
        obtain ⟨b93, h⟩ := h
        refine r_sld (pc := 567) C b93 d_L_law_567 ?_
        refine r_aload_n (pc := 568) C d_L_law_568 rfl 3 rfl ?_
        refine r_cWi (pc := 569) (a' := (ca + 1)) (b' := (cb + 6)) (As := [.inr (.inl (some 0)), .inl ((gx G) (l4 + 1).toNatClampNeg), .inr (.inl (some 34))]) C (c_L_root C.s hg h) o_L_root (k_579 C.w) rfl ⟨by decide, by decide, by show (ca + 1) ≤ 601024; omega, by show (cb + 6) ≤ 7293034; omega⟩ rfl rfl (Nat.le_of_ble_eq_true rfl) d_L_law_569 rfl ?_
        intro r95 μ94 h
        refine r_istore (pc := 572) (lv' := [(0, .inr (.inr ())), (1, .inr (.inl (some 0))), (2, .inr (.inl (some 17))), (3, .inr (.inl (some 34))), (4, .inl l4)]) C d_L_law_572 (by decide) rfl ?_
        refine r_aload_n (pc := 574) C d_L_law_574 rfl 3 rfl ?_
        refine r_aloadS (pc := 575) C d_L_law_575 rfl 1 rfl ?_
        refine r_iload (pc := 576) C d_L_law_576 5 rfl ?_
        refine r_iconst (pc := 578) C d_L_law_578 (v := 1) (by decide) ?_
        refine r_iadd (pc := 579) C d_L_law_579 ?_
        obtain ⟨b96, h⟩ := h
        refine r_sld (pc := 580) C b96 d_L_law_580 ?_
        refine r_cVi (pc := 581) (a' := (ca + 1)) (b' := (cb + 6)) (As := [.inl ((gx G) (l4 + 1).toNatClampNeg)]) (ci := 6) C (c_M_root C.s hg h) o_M_root rfl (lay_O hg rfl) (k_923 C.w) rfl ⟨by decide, by decide, by show (ca + 1) ≤ 601024; omega, by show (cb + 6) ≤ 7293034; omega⟩ rfl rfl (Nat.le_of_ble_eq_true rfl) d_L_law_581 rfl ?_
        intro r98 μ97 h
        refine r_istore (pc := 584) (lv' := [(5, .inl r95), (0, .inr (.inr ())), (1, .inr (.inl (some 0))), (2, .inr (.inl (some 17))), (3, .inr (.inl (some 34))), (4, .inl l4)]) C d_L_law_584 (by decide) rfl ?_
        refine r_aload_n (pc := 586) C d_L_law_586 rfl 4 rfl ?_
        refine r_cVi (pc := 587) (a' := (ca + 1)) (b' := (cb + 6)) (As := []) (ci := 6) C (c_M_thrown C.s hg h) o_M_thrown rfl (lay_O hg rfl) (k_744 C.w) rfl ⟨by decide, by decide, by show (ca + 1) ≤ 601024; omega, by show (cb + 6) ≤ 7293034; omega⟩ rfl rfl (Nat.le_of_ble_eq_true rfl) d_L_law_587 rfl ?_
        intro r100 μ99 h
        refine r_iload (pc := 590) C d_L_law_590 1 rfl ?_
        refine r_icmp_eq (tgt := 597) (pc := 592) C d_L_law_592 (by decide) ?_ ?_
        · intro hc; replace h := h.1 hc
          refine r_iload (pc := 597) C d_L_law_597 1 rfl ?_
          refine r_if_ne (tgt := 614) (pc := 599) C d_L_law_599 (by decide) ?_ ?_
          · intro hc; replace h := h.2 hc
            refine r_goto (tgt := 865) (pc := 614) C d_L_law_614 (by decide) ?_
            refine r_iinc (pc := 865) (v := 4) (lv' := [(6, .inl r98), (5, .inl r95), (0, .inr (.inr ())), (1, .inr (.inl (some 0))), (2, .inr (.inl (some 17))), (3, .inr (.inl (some 34)))]) C d_L_law_865 6 rfl (by decide) (by decide) rfl ?_
            refine r_goto (tgt := 23) (pc := 868) C d_L_law_868 (by decide) ?_
            refine r_sub [3, 4, 5, 6, 0] rfl ?_
            refine r_widen (a' := ca + 3) (b' := cb + 31) (by omega) (by omega) ?_
            exact ih (ca + 3) (cb + 31) (by omega) (by omega) (l4 + 4) μ99 h
          · intro hc; replace h := h.1 hc
            refine r_aload_n (pc := 602) C d_L_law_602 rfl 5 rfl ?_
            refine r_iconst (pc := 603) C d_L_law_603 (v := 0) (by decide) ?_
            obtain ⟨b101, h⟩ := h
            refine r_lald (pc := 604) C (lay_A hg rfl) b101 d_L_law_604 ?_
            refine r_iload (pc := 605) C d_L_law_605 0 rfl ?_
            refine r_i2l (pc := 607) C d_L_law_607 ?_
            refine r_lcmp (pc := 608) C d_L_law_608 ?_
            refine r_if_eq (tgt := 614) (pc := 609) C d_L_law_609 (by decide) ?_ ?_
            · intro hc; replace h := h.1 hc
              refine r_goto (tgt := 865) (pc := 614) C d_L_law_614 (by decide) ?_
              refine r_iinc (pc := 865) (v := 4) (lv' := [(6, .inl r98), (5, .inl r95), (0, .inr (.inr ())), (1, .inr (.inl (some 0))), (2, .inr (.inl (some 17))), (3, .inr (.inl (some 34)))]) C d_L_law_865 6 rfl (by decide) (by decide) rfl ?_
              refine r_goto (tgt := 23) (pc := 868) C d_L_law_868 (by decide) ?_
              refine r_sub [3, 4, 5, 6, 0] rfl ?_
              refine r_widen (a' := ca + 3) (b' := cb + 31) (by omega) (by omega) ?_
              exact ih (ca + 3) (cb + 31) (by omega) (by omega) (l4 + 4) μ99 h
            · intro hc; replace h := h.2 hc
              refine r_iconst (pc := 612) C d_L_law_612 (v := 0) (by decide) ?_
              exact r_zret (pc := 613) C Q (Or.inl rfl) d_L_law_613 (by show (ca + 1) ≤ 601024; omega) (by show (cb + 6) ≤ 7293034; omega) h
        · intro hc; replace h := h.2 hc
          refine r_iconst (pc := 595) C d_L_law_595 (v := 0) (by decide) ?_
          exact r_zret (pc := 596) C Q (Or.inl rfl) d_L_law_596 (by show (ca + 1) ≤ 601024; omega) (by show (cb + 6) ≤ 7293034; omega) h
      by_cases hs9 : ((gx G) (l4).toNatClampNeg) &&& 15 = 9
      · replace h := h.2.2.2.2.2.2.2.2.2.1 hs9
        refine r_tin (tgt := 617) (pc := 39) C d_L_law_39 hs9 (by decide) (by decide) (by rfl) (by decide) ?_
        refine r_aload_n (pc := 617) C d_L_law_617 rfl 1 rfl ?_
        refine r_aloadS (pc := 618) C d_L_law_618 rfl 0 rfl ?_
        refine r_iload (pc := 619) C d_L_law_619 4 rfl ?_
        refine r_iconst (pc := 621) C d_L_law_621 (v := 1) (by decide) ?_
        refine r_iadd (pc := 622) C d_L_law_622 ?_
        obtain ⟨b102, h⟩ := h
        refine r_sld (pc := 623) C b102 d_L_law_623 ?_
        refine r_aloadS (pc := 624) C d_L_law_624 rfl 0 rfl ?_
        refine r_iload (pc := 625) C d_L_law_625 4 rfl ?_
        refine r_iconst (pc := 627) C d_L_law_627 (v := 2) (by decide) ?_
        refine r_iadd (pc := 628) C d_L_law_628 ?_
        obtain ⟨b103, h⟩ := h
        refine r_sld (pc := 629) C b103 d_L_law_629 ?_
        refine r_aload_n (pc := 630) C d_L_law_630 rfl 3 rfl ?_
        refine r_cWi (pc := 631) (a' := (ca + 1)) (b' := (cb + 6)) (As := [.inr (.inl (some 0)), .inl ((gx G) (l4 + 1).toNatClampNeg), .inl ((gx G) (l4 + 2).toNatClampNeg), .inr (.inl (some 34))]) C (c_L_field C.s hg h) o_L_field (k_586 C.w) rfl ⟨by decide, by decide, by show (ca + 1) ≤ 601024; omega, by show (cb + 6) ≤ 7293034; omega⟩ rfl rfl (Nat.le_of_ble_eq_true rfl) d_L_law_631 rfl ?_
        intro r105 μ104 h
        refine r_istore (pc := 634) (lv' := [(0, .inr (.inr ())), (1, .inr (.inl (some 0))), (2, .inr (.inl (some 17))), (3, .inr (.inl (some 34))), (4, .inl l4)]) C d_L_law_634 (by decide) rfl ?_
        refine r_aload_n (pc := 636) C d_L_law_636 rfl 3 rfl ?_
        refine r_aloadS (pc := 637) C d_L_law_637 rfl 1 rfl ?_
        refine r_iload (pc := 638) C d_L_law_638 5 rfl ?_
        refine r_iconst (pc := 640) C d_L_law_640 (v := 1) (by decide) ?_
        refine r_iadd (pc := 641) C d_L_law_641 ?_
        obtain ⟨b106, h⟩ := h
        refine r_sld (pc := 642) C b106 d_L_law_642 ?_
        refine r_aloadS (pc := 643) C d_L_law_643 rfl 1 rfl ?_
        refine r_iload (pc := 644) C d_L_law_644 5 rfl ?_
        refine r_iconst (pc := 646) C d_L_law_646 (v := 2) (by decide) ?_
        refine r_iadd (pc := 647) C d_L_law_647 ?_
        obtain ⟨b107, h⟩ := h
        refine r_sld (pc := 648) C b107 d_L_law_648 ?_
        refine r_cVi (pc := 649) (a' := (ca + 1)) (b' := (cb + 6)) (As := [.inl ((gx G) (l4 + 1).toNatClampNeg), .inl ((gx G) (l4 + 2).toNatClampNeg)]) (ci := 6) C (c_M_field C.s hg h) o_M_field rfl (lay_O hg rfl) (k_927 C.w) rfl ⟨by decide, by decide, by show (ca + 1) ≤ 601024; omega, by show (cb + 6) ≤ 7293034; omega⟩ rfl rfl (Nat.le_of_ble_eq_true rfl) d_L_law_649 rfl ?_
        intro r109 μ108 h
        refine r_istore (pc := 652) (lv' := [(5, .inl r105), (0, .inr (.inr ())), (1, .inr (.inl (some 0))), (2, .inr (.inl (some 17))), (3, .inr (.inl (some 34))), (4, .inl l4)]) C d_L_law_652 (by decide) rfl ?_
        refine r_aload_n (pc := 654) C d_L_law_654 rfl 4 rfl ?_
        refine r_cVi (pc := 655) (a' := (ca + 1)) (b' := (cb + 6)) (As := []) (ci := 6) C (c_M_thrown C.s hg h) o_M_thrown rfl (lay_O hg rfl) (k_744 C.w) rfl ⟨by decide, by decide, by show (ca + 1) ≤ 601024; omega, by show (cb + 6) ≤ 7293034; omega⟩ rfl rfl (Nat.le_of_ble_eq_true rfl) d_L_law_655 rfl ?_
        intro r111 μ110 h
        refine r_iload (pc := 658) C d_L_law_658 1 rfl ?_
        refine r_icmp_eq (tgt := 665) (pc := 660) C d_L_law_660 (by decide) ?_ ?_
        · intro hc; replace h := h.1 hc
          refine r_iload (pc := 665) C d_L_law_665 1 rfl ?_
          refine r_if_ne (tgt := 682) (pc := 667) C d_L_law_667 (by decide) ?_ ?_
          · intro hc; replace h := h.2 hc
            refine r_goto (tgt := 865) (pc := 682) C d_L_law_682 (by decide) ?_
            refine r_iinc (pc := 865) (v := 4) (lv' := [(6, .inl r109), (5, .inl r105), (0, .inr (.inr ())), (1, .inr (.inl (some 0))), (2, .inr (.inl (some 17))), (3, .inr (.inl (some 34)))]) C d_L_law_865 6 rfl (by decide) (by decide) rfl ?_
            refine r_goto (tgt := 23) (pc := 868) C d_L_law_868 (by decide) ?_
            refine r_sub [3, 4, 5, 6, 0] rfl ?_
            refine r_widen (a' := ca + 3) (b' := cb + 31) (by omega) (by omega) ?_
            exact ih (ca + 3) (cb + 31) (by omega) (by omega) (l4 + 4) μ110 h
          · intro hc; replace h := h.1 hc
            refine r_aload_n (pc := 670) C d_L_law_670 rfl 5 rfl ?_
            refine r_iconst (pc := 671) C d_L_law_671 (v := 0) (by decide) ?_
            obtain ⟨b112, h⟩ := h
            refine r_lald (pc := 672) C (lay_A hg rfl) b112 d_L_law_672 ?_
            refine r_iload (pc := 673) C d_L_law_673 0 rfl ?_
            refine r_i2l (pc := 675) C d_L_law_675 ?_
            refine r_lcmp (pc := 676) C d_L_law_676 ?_
            refine r_if_eq (tgt := 682) (pc := 677) C d_L_law_677 (by decide) ?_ ?_
            · intro hc; replace h := h.1 hc
              refine r_goto (tgt := 865) (pc := 682) C d_L_law_682 (by decide) ?_
              refine r_iinc (pc := 865) (v := 4) (lv' := [(6, .inl r109), (5, .inl r105), (0, .inr (.inr ())), (1, .inr (.inl (some 0))), (2, .inr (.inl (some 17))), (3, .inr (.inl (some 34)))]) C d_L_law_865 6 rfl (by decide) (by decide) rfl ?_
              refine r_goto (tgt := 23) (pc := 868) C d_L_law_868 (by decide) ?_
              refine r_sub [3, 4, 5, 6, 0] rfl ?_
              refine r_widen (a' := ca + 3) (b' := cb + 31) (by omega) (by omega) ?_
              exact ih (ca + 3) (cb + 31) (by omega) (by omega) (l4 + 4) μ110 h
            · intro hc; replace h := h.2 hc
              refine r_iconst (pc := 680) C d_L_law_680 (v := 0) (by decide) ?_
              exact r_zret (pc := 681) C Q (Or.inl rfl) d_L_law_681 (by show (ca + 1) ≤ 601024; omega) (by show (cb + 6) ≤ 7293034; omega) h
        · intro hc; replace h := h.2 hc
          refine r_iconst (pc := 663) C d_L_law_663 (v := 0) (by decide) ?_
          exact r_zret (pc := 664) C Q (Or.inl rfl) d_L_law_664 (by show (ca + 1) ≤ 601024; omega) (by show (cb + 6) ≤ 7293034; omega) h
      by_cases hs10 : ((gx G) (l4).toNatClampNeg) &&& 15 = 10
      · replace h := h.2.2.2.2.2.2.2.2.2.2.1 hs10
        refine r_tin (tgt := 685) (pc := 39) C d_L_law_39 hs10 (by decide) (by decide) (by rfl) (by decide) ?_
        refine r_aload_n (pc := 685) C d_L_law_685 rfl 1 rfl ?_
        refine r_aloadS (pc := 686) C d_L_law_686 rfl 0 rfl ?_
        refine r_iload (pc := 687) C d_L_law_687 4 rfl ?_
        refine r_iconst (pc := 689) C d_L_law_689 (v := 1) (by decide) ?_
        refine r_iadd (pc := 690) C d_L_law_690 ?_
        obtain ⟨b113, h⟩ := h
        refine r_sld (pc := 691) C b113 d_L_law_691 ?_
        refine r_aloadS (pc := 692) C d_L_law_692 rfl 0 rfl ?_
        refine r_iload (pc := 693) C d_L_law_693 4 rfl ?_
        refine r_iconst (pc := 695) C d_L_law_695 (v := 2) (by decide) ?_
        refine r_iadd (pc := 696) C d_L_law_696 ?_
        obtain ⟨b114, h⟩ := h
        refine r_sld (pc := 697) C b114 d_L_law_697 ?_
        refine r_aload_n (pc := 698) C d_L_law_698 rfl 3 rfl ?_
        refine r_cWi (pc := 699) (a' := (ca + 1)) (b' := (cb + 6)) (As := [.inr (.inl (some 0)), .inl ((gx G) (l4 + 1).toNatClampNeg), .inl ((gx G) (l4 + 2).toNatClampNeg), .inr (.inl (some 34))]) C (c_L_object C.s hg h) o_L_object (k_613 C.w) rfl ⟨by decide, by decide, by show (ca + 1) ≤ 601024; omega, by show (cb + 6) ≤ 7293034; omega⟩ rfl rfl (Nat.le_of_ble_eq_true rfl) d_L_law_699 rfl ?_
        intro r116 μ115 h
        refine r_istore (pc := 702) (lv' := [(0, .inr (.inr ())), (1, .inr (.inl (some 0))), (2, .inr (.inl (some 17))), (3, .inr (.inl (some 34))), (4, .inl l4)]) C d_L_law_702 (by decide) rfl ?_
        refine r_aload_n (pc := 704) C d_L_law_704 rfl 3 rfl ?_
        refine r_aloadS (pc := 705) C d_L_law_705 rfl 1 rfl ?_
        refine r_iload (pc := 706) C d_L_law_706 5 rfl ?_
        refine r_iconst (pc := 708) C d_L_law_708 (v := 1) (by decide) ?_
        refine r_iadd (pc := 709) C d_L_law_709 ?_
        obtain ⟨b117, h⟩ := h
        refine r_sld (pc := 710) C b117 d_L_law_710 ?_
        refine r_aloadS (pc := 711) C d_L_law_711 rfl 1 rfl ?_
        refine r_iload (pc := 712) C d_L_law_712 5 rfl ?_
        refine r_iconst (pc := 714) C d_L_law_714 (v := 2) (by decide) ?_
        refine r_iadd (pc := 715) C d_L_law_715 ?_
        obtain ⟨b118, h⟩ := h
        refine r_sld (pc := 716) C b118 d_L_law_716 ?_
        refine r_cVi (pc := 717) (a' := (ca + 1)) (b' := (cb + 6)) (As := [.inl ((gx G) (l4 + 1).toNatClampNeg), .inl ((gx G) (l4 + 2).toNatClampNeg)]) (ci := 6) C (c_M_object C.s hg h) o_M_object rfl (lay_O hg rfl) (k_931 C.w) rfl ⟨by decide, by decide, by show (ca + 1) ≤ 601024; omega, by show (cb + 6) ≤ 7293034; omega⟩ rfl rfl (Nat.le_of_ble_eq_true rfl) d_L_law_717 rfl ?_
        intro r120 μ119 h
        refine r_istore (pc := 720) (lv' := [(5, .inl r116), (0, .inr (.inr ())), (1, .inr (.inl (some 0))), (2, .inr (.inl (some 17))), (3, .inr (.inl (some 34))), (4, .inl l4)]) C d_L_law_720 (by decide) rfl ?_
        refine r_aload_n (pc := 722) C d_L_law_722 rfl 4 rfl ?_
        refine r_cVi (pc := 723) (a' := (ca + 1)) (b' := (cb + 6)) (As := []) (ci := 6) C (c_M_thrown C.s hg h) o_M_thrown rfl (lay_O hg rfl) (k_744 C.w) rfl ⟨by decide, by decide, by show (ca + 1) ≤ 601024; omega, by show (cb + 6) ≤ 7293034; omega⟩ rfl rfl (Nat.le_of_ble_eq_true rfl) d_L_law_723 rfl ?_
        intro r122 μ121 h
        refine r_iload (pc := 726) C d_L_law_726 1 rfl ?_
        refine r_icmp_eq (tgt := 733) (pc := 728) C d_L_law_728 (by decide) ?_ ?_
        · intro hc; replace h := h.1 hc
          refine r_iload (pc := 733) C d_L_law_733 1 rfl ?_
          refine r_if_ne (tgt := 750) (pc := 735) C d_L_law_735 (by decide) ?_ ?_
          · intro hc; replace h := h.2 hc
            refine r_goto (tgt := 865) (pc := 750) C d_L_law_750 (by decide) ?_
            refine r_iinc (pc := 865) (v := 4) (lv' := [(6, .inl r120), (5, .inl r116), (0, .inr (.inr ())), (1, .inr (.inl (some 0))), (2, .inr (.inl (some 17))), (3, .inr (.inl (some 34)))]) C d_L_law_865 6 rfl (by decide) (by decide) rfl ?_
            refine r_goto (tgt := 23) (pc := 868) C d_L_law_868 (by decide) ?_
            refine r_sub [3, 4, 5, 6, 0] rfl ?_
            refine r_widen (a' := ca + 3) (b' := cb + 31) (by omega) (by omega) ?_
            exact ih (ca + 3) (cb + 31) (by omega) (by omega) (l4 + 4) μ121 h
          · intro hc; replace h := h.1 hc
            refine r_aload_n (pc := 738) C d_L_law_738 rfl 5 rfl ?_
            refine r_iconst (pc := 739) C d_L_law_739 (v := 0) (by decide) ?_
            obtain ⟨b123, h⟩ := h
            refine r_lald (pc := 740) C (lay_A hg rfl) b123 d_L_law_740 ?_
            refine r_iload (pc := 741) C d_L_law_741 0 rfl ?_
            refine r_i2l (pc := 743) C d_L_law_743 ?_
            refine r_lcmp (pc := 744) C d_L_law_744 ?_
            refine r_if_eq (tgt := 750) (pc := 745) C d_L_law_745 (by decide) ?_ ?_
            · intro hc; replace h := h.1 hc
              refine r_goto (tgt := 865) (pc := 750) C d_L_law_750 (by decide) ?_
              refine r_iinc (pc := 865) (v := 4) (lv' := [(6, .inl r120), (5, .inl r116), (0, .inr (.inr ())), (1, .inr (.inl (some 0))), (2, .inr (.inl (some 17))), (3, .inr (.inl (some 34)))]) C d_L_law_865 6 rfl (by decide) (by decide) rfl ?_
              refine r_goto (tgt := 23) (pc := 868) C d_L_law_868 (by decide) ?_
              refine r_sub [3, 4, 5, 6, 0] rfl ?_
              refine r_widen (a' := ca + 3) (b' := cb + 31) (by omega) (by omega) ?_
              exact ih (ca + 3) (cb + 31) (by omega) (by omega) (l4 + 4) μ121 h
            · intro hc; replace h := h.2 hc
              refine r_iconst (pc := 748) C d_L_law_748 (v := 0) (by decide) ?_
              exact r_zret (pc := 749) C Q (Or.inl rfl) d_L_law_749 (by show (ca + 1) ≤ 601024; omega) (by show (cb + 6) ≤ 7293034; omega) h
        · intro hc; replace h := h.2 hc
          refine r_iconst (pc := 731) C d_L_law_731 (v := 0) (by decide) ?_
          exact r_zret (pc := 732) C Q (Or.inl rfl) d_L_law_732 (by show (ca + 1) ≤ 601024; omega) (by show (cb + 6) ≤ 7293034; omega) h
      by_cases hs11 : ((gx G) (l4).toNatClampNeg) &&& 15 = 11
      · replace h := h.2.2.2.2.2.2.2.2.2.2.2.1 hs11
        refine r_tin (tgt := 753) (pc := 39) C d_L_law_39 hs11 (by decide) (by decide) (by rfl) (by decide) ?_
        refine r_aload_n (pc := 753) C d_L_law_753 rfl 1 rfl ?_
        refine r_aloadS (pc := 754) C d_L_law_754 rfl 0 rfl ?_
        refine r_iload (pc := 755) C d_L_law_755 4 rfl ?_
        refine r_iconst (pc := 757) C d_L_law_757 (v := 1) (by decide) ?_
        refine r_iadd (pc := 758) C d_L_law_758 ?_
        obtain ⟨b124, h⟩ := h
        refine r_sld (pc := 759) C b124 d_L_law_759 ?_
        refine r_aload_n (pc := 760) C d_L_law_760 rfl 3 rfl ?_
        refine r_cWi (pc := 761) (a' := (ca + 1)) (b' := (cb + 6)) (As := [.inr (.inl (some 0)), .inl ((gx G) (l4 + 1).toNatClampNeg), .inr (.inl (some 34))]) C (c_L_line C.s hg h) o_L_line (k_620 C.w) rfl ⟨by decide, by decide, by show (ca + 1) ≤ 601024; omega, by show (cb + 6) ≤ 7293034; omega⟩ rfl rfl (Nat.le_of_ble_eq_true rfl) d_L_law_761 rfl ?_
        intro r126 μ125 h
        refine r_istore (pc := 764) (lv' := [(0, .inr (.inr ())), (1, .inr (.inl (some 0))), (2, .inr (.inl (some 17))), (3, .inr (.inl (some 34))), (4, .inl l4)]) C d_L_law_764 (by decide) rfl ?_
        refine r_aload_n (pc := 766) C d_L_law_766 rfl 3 rfl ?_
        refine r_aloadS (pc := 767) C d_L_law_767 rfl 1 rfl ?_
        refine r_iload (pc := 768) C d_L_law_768 5 rfl ?_
        refine r_iconst (pc := 770) C d_L_law_770 (v := 1) (by decide) ?_
        refine r_iadd (pc := 771) C d_L_law_771 ?_
        obtain ⟨b127, h⟩ := h
        refine r_sld (pc := 772) C b127 d_L_law_772 ?_
        refine r_cVi (pc := 773) (a' := (ca + 1)) (b' := (cb + 6)) (As := [.inl ((gx G) (l4 + 1).toNatClampNeg)]) (ci := 6) C (c_M_line C.s hg h) o_M_line rfl (lay_O hg rfl) (k_935 C.w) rfl ⟨by decide, by decide, by show (ca + 1) ≤ 601024; omega, by show (cb + 6) ≤ 7293034; omega⟩ rfl rfl (Nat.le_of_ble_eq_true rfl) d_L_law_773 rfl ?_
        intro r129 μ128 h
        refine r_istore (pc := 776) (lv' := [(5, .inl r126), (0, .inr (.inr ())), (1, .inr (.inl (some 0))), (2, .inr (.inl (some 17))), (3, .inr (.inl (some 34))), (4, .inl l4)]) C d_L_law_776 (by decide) rfl ?_
        refine r_aload_n (pc := 778) C d_L_law_778 rfl 4 rfl ?_
        refine r_cVi (pc := 779) (a' := (ca + 1)) (b' := (cb + 6)) (As := []) (ci := 6) C (c_M_thrown C.s hg h) o_M_thrown rfl (lay_O hg rfl) (k_744 C.w) rfl ⟨by decide, by decide, by show (ca + 1) ≤ 601024; omega, by show (cb + 6) ≤ 7293034; omega⟩ rfl rfl (Nat.le_of_ble_eq_true rfl) d_L_law_779 rfl ?_
        intro r131 μ130 h
        refine r_iload (pc := 782) C d_L_law_782 1 rfl ?_
        refine r_icmp_eq (tgt := 789) (pc := 784) C d_L_law_784 (by decide) ?_ ?_
        · intro hc; replace h := h.1 hc
          refine r_iload (pc := 789) C d_L_law_789 1 rfl ?_
          refine r_if_ne (tgt := 806) (pc := 791) C d_L_law_791 (by decide) ?_ ?_
          · intro hc; replace h := h.2 hc
            refine r_goto (tgt := 865) (pc := 806) C d_L_law_806 (by decide) ?_
            refine r_iinc (pc := 865) (v := 4) (lv' := [(6, .inl r129), (5, .inl r126), (0, .inr (.inr ())), (1, .inr (.inl (some 0))), (2, .inr (.inl (some 17))), (3, .inr (.inl (some 34)))]) C d_L_law_865 6 rfl (by decide) (by decide) rfl ?_
            refine r_goto (tgt := 23) (pc := 868) C d_L_law_868 (by decide) ?_
            refine r_sub [3, 4, 5, 6, 0] rfl ?_
            refine r_widen (a' := ca + 3) (b' := cb + 31) (by omega) (by omega) ?_
            exact ih (ca + 3) (cb + 31) (by omega) (by omega) (l4 + 4) μ130 h
          · intro hc; replace h := h.1 hc
            refine r_aload_n (pc := 794) C d_L_law_794 rfl 5 rfl ?_
            refine r_iconst (pc := 795) C d_L_law_795 (v := 0) (by decide) ?_
            obtain ⟨b132, h⟩ := h
            refine r_lald (pc := 796) C (lay_A hg rfl) b132 d_L_law_796 ?_
            refine r_iload (pc := 797) C d_L_law_797 0 rfl ?_
            refine r_i2l (pc := 799) C d_L_law_799 ?_
            refine r_lcmp (pc := 800) C d_L_law_800 ?_
            refine r_if_eq (tgt := 806) (pc := 801) C d_L_law_801 (by decide) ?_ ?_
            · intro hc; replace h := h.1 hc
              refine r_goto (tgt := 865) (pc := 806) C d_L_law_806 (by decide) ?_
              refine r_iinc (pc := 865) (v := 4) (lv' := [(6, .inl r129), (5, .inl r126), (0, .inr (.inr ())), (1, .inr (.inl (some 0))), (2, .inr (.inl (some 17))), (3, .inr (.inl (some 34)))]) C d_L_law_865 6 rfl (by decide) (by decide) rfl ?_
              refine r_goto (tgt := 23) (pc := 868) C d_L_law_868 (by decide) ?_
              refine r_sub [3, 4, 5, 6, 0] rfl ?_
              refine r_widen (a' := ca + 3) (b' := cb + 31) (by omega) (by omega) ?_
              exact ih (ca + 3) (cb + 31) (by omega) (by omega) (l4 + 4) μ130 h
            · intro hc; replace h := h.2 hc
              refine r_iconst (pc := 804) C d_L_law_804 (v := 0) (by decide) ?_
              exact r_zret (pc := 805) C Q (Or.inl rfl) d_L_law_805 (by show (ca + 1) ≤ 601024; omega) (by show (cb + 6) ≤ 7293034; omega) h
        · intro hc; replace h := h.2 hc
          refine r_iconst (pc := 787) C d_L_law_787 (v := 0) (by decide) ?_
          exact r_zret (pc := 788) C Q (Or.inl rfl) d_L_law_788 (by show (ca + 1) ≤ 601024; omega) (by show (cb + 6) ≤ 7293034; omega) h
      by_cases hs12 : ((gx G) (l4).toNatClampNeg) &&& 15 = 12
      · replace h := h.2.2.2.2.2.2.2.2.2.2.2.2.1 hs12
        refine r_tin (tgt := 809) (pc := 39) C d_L_law_39 hs12 (by decide) (by decide) (by rfl) (by decide) ?_
        refine r_aload_n (pc := 809) C d_L_law_809 rfl 1 rfl ?_
        refine r_aloadS (pc := 810) C d_L_law_810 rfl 0 rfl ?_
        refine r_iload (pc := 811) C d_L_law_811 4 rfl ?_
        refine r_iconst (pc := 813) C d_L_law_813 (v := 1) (by decide) ?_
        refine r_iadd (pc := 814) C d_L_law_814 ?_
        obtain ⟨b133, h⟩ := h
        refine r_sld (pc := 815) C b133 d_L_law_815 ?_
        refine r_aload_n (pc := 816) C d_L_law_816 rfl 3 rfl ?_
        refine r_cWi (pc := 817) (a' := (ca + 1)) (b' := (cb + 6)) (As := [.inr (.inl (some 0)), .inl ((gx G) (l4 + 1).toNatClampNeg), .inr (.inl (some 34))]) C (c_L_figure C.s hg h) o_L_figure (k_629 C.w) rfl ⟨by decide, by decide, by show (ca + 1) ≤ 601024; omega, by show (cb + 6) ≤ 7293034; omega⟩ rfl rfl (Nat.le_of_ble_eq_true rfl) d_L_law_817 rfl ?_
        intro r135 μ134 h
        refine r_istore (pc := 820) (lv' := [(0, .inr (.inr ())), (1, .inr (.inl (some 0))), (2, .inr (.inl (some 17))), (3, .inr (.inl (some 34))), (4, .inl l4)]) C d_L_law_820 (by decide) rfl ?_
        refine r_aload_n (pc := 822) C d_L_law_822 rfl 3 rfl ?_
        refine r_aloadS (pc := 823) C d_L_law_823 rfl 1 rfl ?_
        refine r_iload (pc := 824) C d_L_law_824 5 rfl ?_
        refine r_iconst (pc := 826) C d_L_law_826 (v := 1) (by decide) ?_
        refine r_iadd (pc := 827) C d_L_law_827 ?_
        obtain ⟨b136, h⟩ := h
        refine r_sld (pc := 828) C b136 d_L_law_828 ?_
        refine r_cVi (pc := 829) (a' := (ca + 1)) (b' := (cb + 6)) (As := [.inl ((gx G) (l4 + 1).toNatClampNeg)]) (ci := 6) C (c_M_figure C.s hg h) o_M_figure rfl (lay_O hg rfl) (k_939 C.w) rfl ⟨by decide, by decide, by show (ca + 1) ≤ 601024; omega, by show (cb + 6) ≤ 7293034; omega⟩ rfl rfl (Nat.le_of_ble_eq_true rfl) d_L_law_829 rfl ?_
        intro r138 μ137 h
        refine r_istore (pc := 832) (lv' := [(5, .inl r135), (0, .inr (.inr ())), (1, .inr (.inl (some 0))), (2, .inr (.inl (some 17))), (3, .inr (.inl (some 34))), (4, .inl l4)]) C d_L_law_832 (by decide) rfl ?_
        refine r_aload_n (pc := 834) C d_L_law_834 rfl 4 rfl ?_
        refine r_cVi (pc := 835) (a' := (ca + 1)) (b' := (cb + 6)) (As := []) (ci := 6) C (c_M_thrown C.s hg h) o_M_thrown rfl (lay_O hg rfl) (k_744 C.w) rfl ⟨by decide, by decide, by show (ca + 1) ≤ 601024; omega, by show (cb + 6) ≤ 7293034; omega⟩ rfl rfl (Nat.le_of_ble_eq_true rfl) d_L_law_835 rfl ?_
        intro r140 μ139 h
        refine r_iload (pc := 838) C d_L_law_838 1 rfl ?_
        refine r_icmp_eq (tgt := 845) (pc := 840) C d_L_law_840 (by decide) ?_ ?_
        · intro hc; replace h := h.1 hc
          refine r_iload (pc := 845) C d_L_law_845 1 rfl ?_
          refine r_if_ne (tgt := 862) (pc := 847) C d_L_law_847 (by decide) ?_ ?_
          · intro hc; replace h := h.2 hc
            refine r_goto (tgt := 865) (pc := 862) C d_L_law_862 (by decide) ?_
            refine r_iinc (pc := 865) (v := 4) (lv' := [(6, .inl r138), (5, .inl r135), (0, .inr (.inr ())), (1, .inr (.inl (some 0))), (2, .inr (.inl (some 17))), (3, .inr (.inl (some 34)))]) C d_L_law_865 6 rfl (by decide) (by decide) rfl ?_
            refine r_goto (tgt := 23) (pc := 868) C d_L_law_868 (by decide) ?_
            refine r_sub [3, 4, 5, 6, 0] rfl ?_
            refine r_widen (a' := ca + 3) (b' := cb + 31) (by omega) (by omega) ?_
            exact ih (ca + 3) (cb + 31) (by omega) (by omega) (l4 + 4) μ139 h
          · intro hc; replace h := h.1 hc
            refine r_aload_n (pc := 850) C d_L_law_850 rfl 5 rfl ?_
            refine r_iconst (pc := 851) C d_L_law_851 (v := 0) (by decide) ?_
            obtain ⟨b141, h⟩ := h
            refine r_lald (pc := 852) C (lay_A hg rfl) b141 d_L_law_852 ?_
            refine r_iload (pc := 853) C d_L_law_853 0 rfl ?_
            refine r_i2l (pc := 855) C d_L_law_855 ?_
            refine r_lcmp (pc := 856) C d_L_law_856 ?_
            refine r_if_eq (tgt := 862) (pc := 857) C d_L_law_857 (by decide) ?_ ?_
            · intro hc; replace h := h.1 hc
              refine r_goto (tgt := 865) (pc := 862) C d_L_law_862 (by decide) ?_
              refine r_iinc (pc := 865) (v := 4) (lv' := [(6, .inl r138), (5, .inl r135), (0, .inr (.inr ())), (1, .inr (.inl (some 0))), (2, .inr (.inl (some 17))), (3, .inr (.inl (some 34)))]) C d_L_law_865 6 rfl (by decide) (by decide) rfl ?_
              refine r_goto (tgt := 23) (pc := 868) C d_L_law_868 (by decide) ?_
              refine r_sub [3, 4, 5, 6, 0] rfl ?_
              refine r_widen (a' := ca + 3) (b' := cb + 31) (by omega) (by omega) ?_
              exact ih (ca + 3) (cb + 31) (by omega) (by omega) (l4 + 4) μ139 h
            · intro hc; replace h := h.2 hc
              refine r_iconst (pc := 860) C d_L_law_860 (v := 0) (by decide) ?_
              exact r_zret (pc := 861) C Q (Or.inl rfl) d_L_law_861 (by show (ca + 1) ≤ 601024; omega) (by show (cb + 6) ≤ 7293034; omega) h
        · intro hc; replace h := h.2 hc
          refine r_iconst (pc := 843) C d_L_law_843 (v := 0) (by decide) ?_
          exact r_zret (pc := 844) C Q (Or.inl rfl) d_L_law_844 (by show (ca + 1) ≤ 601024; omega) (by show (cb + 6) ≤ 7293034; omega) h
      replace h := h.2.2.2.2.2.2.2.2.2.2.2.2.2 hs0 hs1 hs2 hs3 hs4 hs5 hs6 hs7 hs8 hs9 hs10 hs11 hs12
      refine r_tout (tgt := 865) (N := 12) (pc := 39) C d_L_law_39 (by decide) (fun n hn => ?_) (by decide) ?_
      · match n, hn with
        | 0, _ => exact hs0
        | 1, _ => exact hs1
        | 2, _ => exact hs2
        | 3, _ => exact hs3
        | 4, _ => exact hs4
        | 5, _ => exact hs5
        | 6, _ => exact hs6
        | 7, _ => exact hs7
        | 8, _ => exact hs8
        | 9, _ => exact hs9
        | 10, _ => exact hs10
        | 11, _ => exact hs11
        | 12, _ => exact hs12
        | n + 13, hn => exact absurd hn (by omega)
      refine r_iinc (pc := 865) (v := 4) (lv' := [(0, .inr (.inr ())), (1, .inr (.inl (some 0))), (2, .inr (.inl (some 17))), (3, .inr (.inl (some 34)))]) C d_L_law_865 4 rfl (by decide) (by decide) rfl ?_
      refine r_goto (tgt := 23) (pc := 868) C d_L_law_868 (by decide) ?_
      refine r_sub [1, 2, 3, 4, 0] rfl ?_
      refine r_widen (a' := ca + 3) (b' := cb + 31) (by omega) (by omega) ?_
      exact ih (ca + 3) (cb + 31) (by omega) (by omega) (l4 + 4) μ h
