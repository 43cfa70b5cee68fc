/-! The white ones lost: both sides -/
def wfk (s : St) (x k : Nat) : List Nat := (hlds s x k).filter (fun y => !decide (sta s y = 2 ∧ co s y = 0))
theorem wk_none {s : St} {x k : Nat} (h : fl s x k = none) : wfk s x (k + 1) = wfk s x k := by
  unfold wfk
  rw [hlds_none h]
theorem wk_white {s : St} {x k y : Nat} (h : fl s x k = some y) (hy : isW s y) : wfk s x (k + 1) = wfk s x k := by
  unfold wfk
  rw [hlds_some h, List.filter_append]
  have : List.filter (fun y => !decide (sta s y = 2 ∧ co s y = 0)) [y] = [] := by
    rw [List.filter_cons]
    rw [if_neg]
    · rfl
    · rw [decide_eq_true (show sta s y = 2 ∧ co s y = 0 from hy)]
      decide
  rw [this, List.append_nil]
theorem wk_other {s : St} {x k y : Nat} (h : fl s x k = some y) (hy : ¬ isW s y) : wfk s x (k + 1) = wfk s x k ++ [y] := by
  unfold wfk
  rw [hlds_some h, List.filter_append]
  have : List.filter (fun y => !decide (sta s y = 2 ∧ co s y = 0)) [y] = [y] := by
    rw [List.filter_cons]
    rw [if_pos]
    · rfl
    · rw [decide_eq_false (show ¬ (sta s y = 2 ∧ co s y = 0) from hy)]
      rfl
  rw [this]
theorem wk_step {s : St} {x k : Nat} : (wfk s x k).length ≤ (wfk s x (k + 1)).length := by
  unfold wfk
  rw [hlds_s, List.filter_append, List.length_append]
  omega
theorem wk_le {s : St} {x k : Nat} : ∀ e, (wfk s x k).length ≤ (wfk s x (k + e)).length := by
  intro e
  induction e with
  | zero => exact Nat.le_refl _
  | succ e ih => exact Nat.le_trans ih wk_step
theorem wfs_le {s : St} {k : Nat} : ∀ e, (wfs s k).length ≤ (wfs s (k + e)).length := by
  intro e
  induction e with
  | zero => exact Nat.le_refl _
  | succ e ih =>
    refine Nat.le_trans ih ?_
    show _ ≤ (wfs s (k + e) ++ wfA s (k + e)).length
    rw [List.length_append]
    omega
theorem wf1_w {s : St} {x : Nat} (h : isW s x) : wf1 s x = wfk s x (sz s x) := if_pos h
theorem wf1_n {s : St} {x : Nat} (h : ¬ isW s x) : wf1 s x = [] := if_neg h
theorem nf_congr {s : St} (hw : Wf s) {Q R : Nat → Prop} {L : List Nat} {w : Int32} (h : ∀ x, sta s x ≠ 0 → (Q x ↔ R x)) : eqS (nf s Q L w) (nf s R L w) := by
  obtain ⟨h0, h1, h2, h3, h4, h5, h6, h7, h8, h9, h10, h11, h12, h13, h14, h15, h16, h17, h18, h19, h20, h21, h22, h23, h24⟩ := ls_congr hw h
  exact ⟨h0, h1, h2, h3, h4, h5, h6, h7, h8, h9, h10, h11, h12, h13, h14, h15, h16, h17, h18, rfl, h20, h21, h22, h23, rfl⟩
theorem nf_one {s : St} (hw : Wf s) {Q : Nat → Prop} {L : List Nat} {w w' : Int32} {x : Nat} (hx : sta s x ≠ 0) : eqS (uwh (los (nf s Q L w) x) w') (nf s (fun y => Q y ∨ y = x) L w') := by
  obtain ⟨h0, h1, h2, h3, h4, h5, h6, h7, h8, h9, h10, h11, h12, h13, h14, h15, h16, h17, h18, h19, h20, h21, h22, h23, h24⟩ := ls_one hw (Q := Q) hx
  exact ⟨h0, h1, h2, h3, h4, h5, h6, h7, h8, h9, h10, h11, h12, h13, h14, h15, h16, h17, h18, rfl, h20, h21, h22, h23, rfl⟩
theorem nf_wf {s : St} (hw : Wf s) (Q : Nat → Prop) (L : List Nat) (w : Int32) : Wf (nf s Q L w) := (wf_ls hw Q).ext rfl (fun _ => Iff.rfl) rfl rfl rfl rfl
theorem wh_1 (a : Int32) (c : Nat) : a + nI c + 1 = a + nI (c + 1) := by rw [Int32.add_assoc, nI_1]
theorem m_sw17 {s : St} {x : Nat} {R : List Nat} (hw : Wf s) (hb : Bd s) (hx : isW s x) (hf : ∀ i y, i < sz s x → fl s x i = some y → y < 256) (hlen : R.length + (wfk s x (sz s x)).length ≤ 262) {K : Int32 → Mem → Prop} : ∀ (e k : Nat) (μ : Mem), k + e = sz s x → MR μ (urow s (R ++ wfk s x k)) →
    (∀ μ1, MR μ1 (urow s (R ++ wfk s x (sz s x))) → Fr moS μ μ1 → ∀ v, K v μ1) → wM_sweep_17 (nI x) K (e + 1) (nI k) μ := by
  have hlive : sta s x ≠ 0 := by have := hx.1; omega
  have hx2 := hw.lt hlive
  have hs12 := hw.sz12 hlive
  intro e
  induction e with
  | zero =>
    intro k μ hk hM h
    have : k = sz s x := by omega
    subst this
    unfold wM_sweep_17
    refine m_isWhite hM hx2 (hb.1 x) (hb.2.2.1 x) (fun _ => ⟨fun w => absurd w (by decide), fun _ => ?_⟩) (fun q => absurd hx q)
    rw [nI_clamp (by omega), show mI μ 21 x = nI (sz s x) from hM.psz x hx2, nI_leI (by omega) (by omega)]
    exact ⟨(nI_vp (by omega)).mpr hx2, fun _ => h μ hM (Fr.refl μ) _, fun q => absurd (Nat.le_refl _) q⟩
  | succ e ih =>
    intro k μ hk hM h
    have p3 : mI μ 25 (12 * x + k) = eo (fl s x k) := hM.pfl x k hx2 (by omega)
    have e12 : 12 * nI x + nI k = nI (12 * x + k) := by rw [li_12, nI_mul, nI_add]
    unfold wM_sweep_17
    refine m_isWhite hM hx2 (hb.1 x) (hb.2.2.1 x) (fun _ => ⟨fun w => absurd w (by decide), fun _ => ?_⟩) (fun q => absurd hx q)
    rw [nI_clamp (by omega), show mI μ 21 x = nI (sz s x) from hM.psz x hx2, nI_leI (by omega) (by omega), e12, nI_clamp (by omega), p3, nI_1]
    refine ⟨(nI_vp (by omega)).mpr hx2, fun q => absurd q (by omega), fun _ => ⟨(nI_vp (by omega)).mpr (by omega), ?_⟩⟩
    cases hfk : fl s x k with
    | none =>
      refine ⟨fun _ => ih (k + 1) μ (by omega) (by rw [wk_none hfk]; exact hM) h, fun q => absurd m1_neg q⟩
    | some y =>
      have hy := hf k y (by omega) hfk
      have ey : eo (some y) = nI y := rfl
      rw [ey]
      refine ⟨fun q => absurd q (nI_pos (by omega)), fun _ => ?_⟩
      refine m_isWhite hM hy (hb.1 y) (hb.2.2.1 y) (fun q => ⟨fun w => absurd w (by decide), fun _ => ih (k + 1) μ (by omega) (by rw [wk_white hfk q]; exact hM) h⟩) (fun q => ⟨fun _ => ?_, fun w => absurd rfl w⟩)
      have hl1 : (wfk s x k).length ≤ (wfk s x (sz s x)).length := by
        have := wk_le (s := s) (x := x) (k := k) (e + 1)
        rw [hk] at this
        exact this
      refine m_wait hM (by omega) (by show (R ++ wfk s x k).length < 700; rw [List.length_append]; omega) (fun μ1 h1 hF => ?_)
      refine ih (k + 1) μ1 (by omega) ?_ (fun μ2 h2 hF2 v => h μ2 h2 (hF.trans hF2) v)
      have q' : ¬ isW s y := q
      rw [wk_other hfk q', ← List.append_assoc]
      exact h1.ext (by simp only [eqS, q_cel_urow, q_sta_urow, q_ad_urow, q_sz_urow, q_tg_urow, q_ct_urow, q_co_urow, q_fl_urow, q_lg_urow, q_nx_urow, q_rt_urow, q_bf_urow, q_hf_urow, q_he_urow, q_hc_urow, q_ov_urow, q_oc_urow, q_cl_urow, q_lf_urow, q_row_urow, q_log_urow, q_tr_urow, q_ps_urow, q_mv_urow, q_wh_urow, and_self])
theorem m_sw2 {s : St} (hw : Wf s) (hb : Bd s) (hf : ∀ x i y, sta s x ≠ 0 → i < sz s x → fl s x i = some y → sta s y ≠ 0) (hlen : (row s).length + (wfs s 128).length ≤ 262) {K : Int32 → Mem → Prop} : ∀ (e k : Nat) (μ : Mem), k + e = 128 → MR μ (urow s (row s ++ wfs s k)) →
    (∀ μ1, MR μ1 (urow s (row s ++ wfs s 128)) → Fr moS μ μ1 → ∀ v, K v μ1) → wM_sweep_2 K (e + 1) (nI k) μ := by
  intro e
  induction e with
  | zero =>
    intro k μ hk hM h
    have : k = 128 := by omega
    subst this
    unfold wM_sweep_2
    rw [li_128, nI_leI (by omega) (by omega)]
    exact ⟨fun _ => h μ hM (Fr.refl μ) _, fun q => absurd (Nat.le_refl _) q⟩
  | succ e ih =>
    intro k μ hk hM h
    have hwu : Wf (urow s (row s ++ wfs s k)) := hw.ext rfl (fun _ => Iff.rfl) rfl rfl rfl rfl
    have hs : wfs s (k + 1) = wfs s k ++ wfA s k := rfl
    unfold wM_sweep_2
    rw [li_128, nI_leI (by omega) (by omega), nI_1]
    refine ⟨fun q => absurd q (by omega), fun _ => m_objectAt hM hwu (by omega) (fun _ => ?_) (fun q => absurd q (by omega))⟩
    have eo' : obj (urow s (row s ++ wfs s k)) k = obj s k := rfl
    rw [eo']
    cases ho : obj s k with
    | none =>
      refine ⟨1, ?_⟩
      unfold wM_sweep_17
      refine m_isWhite_none ⟨fun _ => ih (k + 1) μ (by omega) ?_ h, fun w => absurd rfl w⟩
      rw [hs, wfA_none ho, List.append_nil]
      exact hM
    | some x =>
      have hlive := (obj_live hw ho).1
      have ex : eo (some x) = nI x := rfl
      rw [ex]
      by_cases hx : isW s x
      · have e1 : wfs s (k + 1) = wfs s k ++ wfk s x (sz s x) := by rw [hs, wfA_some ho, wf1_w hx]
        have hl2 : (wfs s (k + 1)).length ≤ (wfs s 128).length := by
          have := wfs_le (s := s) (k := k + 1) e
          rw [show k + 1 + e = 128 by omega] at this
          exact this
        rw [e1, List.length_append] at hl2
        refine ⟨sz s x + 1, m_sw17 (R := row s ++ wfs s k) hw hb hx (fun i y hi hfy => hw.lt (hf x i y hlive hi hfy)) (by rw [List.length_append]; omega) (sz s x) 0 μ (by omega) ?_ (fun μ1 h1 hF v => ?_)⟩
        · have : wfk s x 0 = [] := rfl
          rw [this, List.append_nil]
          exact hM
        · refine ih (k + 1) μ1 (by omega) ?_ (fun μ2 h2 hF2 v => h μ2 h2 (hF.trans hF2) v)
          rw [e1, ← List.append_assoc]
          exact h1
      · refine ⟨1, ?_⟩
        unfold wM_sweep_17
        refine m_isWhite hM (hw.lt hlive) (hb.1 x) (hb.2.2.1 x) (fun q => absurd q hx) (fun q => ⟨fun _ => ih (k + 1) μ (by omega) ?_ h, fun w => absurd rfl w⟩)
        rw [hs, wfA_some ho, wf1_n hx, List.append_nil]
        exact hM
def wctK (s : St) (k : Nat) : Nat := sm (fun x => if sta s x = 2 ∧ co s x = 0 then 1 else 0) k
theorem m_sw82 {s : St} {L : List Nat} (hw : Wf s) (hb : Bd s) {K : Int32 → Mem → Prop} : ∀ (e k : Nat) (μ : Mem), k + e = 256 → MR μ (nf s (fun x => isW s x ∧ x < k) L (wh s + nI (wctK s k))) → (∀ μ1, MR μ1 (nf s (isW s) L (wh s + nI (wct s))) → Fr moS μ μ1 → ∀ v, K v μ1) → wM_sweep_82 K (e + 1) (nI k) μ := by
  have m17 : moS 17 := by unfold moS; omega
  intro e
  induction e with
  | zero =>
    intro k μ hk hM h
    have : k = 256 := by omega
    subst this
    unfold wM_sweep_82
    rw [li_256, nI_leI (by omega) (by omega)]
    refine ⟨fun _ => h μ (hM.ext (nf_congr hw (fun x hx => ⟨fun z => z.1, fun z => ⟨z, hw.lt hx⟩⟩))) (Fr.refl μ) _, fun q => absurd (Nat.le_refl _) q⟩
  | succ e ih =>
    intro k μ hk hM h
    have hq : ¬ (isW s k ∧ k < k) := fun z => by omega
    have est : sta (nf s (fun x => isW s x ∧ x < k) L (wh s + nI (wctK s k))) k = sta s k := lsT_neg (s := s) (Q := fun x => isW s x ∧ x < k) hq
    have eco : co (nf s (fun x => isW s x ∧ x < k) L (wh s + nI (wctK s k))) k = co s k := rfl
    have hwl := nf_wf hw (fun x => isW s x ∧ x < k) L (wh s + nI (wctK s k))
    have ws : wctK s (k + 1) = wctK s k + (if sta s k = 2 ∧ co s k = 0 then 1 else 0) := rfl
    unfold wM_sweep_82
    rw [li_256, nI_leI (by omega) (by omega), nI_1]
    refine ⟨fun q => absurd q (by omega), fun _ => m_isWhite hM (by omega) (by rw [est]; exact hb.1 k) (hb.2.2.1 k) (fun q => ⟨fun w => absurd w (by decide), fun _ => ?_⟩) (fun q => ⟨fun _ => ?_, fun w => absurd rfl w⟩)⟩
    · have hk2 : isW s k := ⟨est.symm.trans q.1, q.2⟩
      have hx : sta s k ≠ 0 := by have := hk2.1; omega
      refine m_lose hM (by omega) (hw.end hx) hw.lf1 (fun μ1 h1 hF => ?_)
      intro μ18 e18
      subst e18
      rw [show mI μ1 17 30 = wh s + nI (wctK s k) from h1.pwh, wh_1]
      rw [if_pos (show sta s k = 2 ∧ co s k = 0 from hk2)] at ws
      refine ih (k + 1) _ (by omega) ?_ (fun μ2 h2 hF2 => h μ2 h2 ((hF.trans (Fr.sI m17)).trans hF2))
      rw [ws]
      refine h1.w_wh.ext ((nf_one hw hx).trans (nf_congr hw (fun x _ => ?_)))
      constructor
      · intro z
        rcases z with z | z
        · exact ⟨z.1, by omega⟩
        · subst z; exact ⟨hk2, by omega⟩
      · intro z
        by_cases e : x = k
        · exact Or.inr e
        · exact Or.inl ⟨z.1, by omega⟩
    · have hk2 : ¬ isW s k := fun z => q ⟨est.trans z.1, z.2⟩
      rw [if_neg (show ¬ (sta s k = 2 ∧ co s k = 0) from hk2), Nat.add_zero] at ws
      refine ih (k + 1) μ (by omega) ?_ h
      rw [ws]
      refine hM.ext (nf_congr hw (fun x _ => ?_))
      constructor
      · intro z; exact ⟨z.1, by omega⟩
      · intro z
        refine ⟨z.1, ?_⟩
        by_cases e : x = k
        · subst e; exact absurd z.1 hk2
        · omega
theorem nf_none {s : St} {Q : Nat → Prop} {L : List Nat} {w : Int32} (h : ∀ x, ¬ Q x) (e : w = wh s) : eqS (urow s L) (nf s Q L w) := by
  obtain ⟨h0, h1, h2, h3, h4, h5, h6, h7, h8, h9, h10, h11, h12, h13, h14, h15, h16, h17, h18, h19, h20, h21, h22, h23, h24⟩ := ls_none (s := s) (Q := Q) h
  exact ⟨h0, h1, h2, h3, h4, h5, h6, h7, h8, h9, h10, h11, h12, h13, h14, h15, h16, h17, h18, rfl, h20, h21, h22, h23, e⟩
theorem wh_0 (a : Int32) : a + nI 0 = a := by
  show a + 0 = a
  exact Int32.add_zero a
theorem m_sweep {s : St} {μ : Mem} {post : Mem → Prop} (h : MR μ s) (hw : Wf s) (hb : Bd s) (hf : ∀ x i y, sta s x ≠ 0 → i < sz s x → fl s x i = some y → sta s y ≠ 0) (hlen : (row s).length + (wfs s 128).length ≤ 262) (hp : ∀ μ1, MR μ1 (swp s) → Fr moS μ μ1 → post μ1) : wM_sweep post μ := by
  unfold wM_sweep
  refine ⟨129, m_sw2 hw hb hf hlen 128 0 μ (by omega) ?_ (fun μ1 h1 hF v => ⟨257, m_sw82 hw hb 256 0 μ1 (by omega) ?_ (fun μ2 h2 hF2 v => hp μ2 h2 (hF.trans hF2))⟩)⟩
  · show MR μ (urow s (row s ++ []))
    rw [List.append_nil]
    exact h
  · refine h1.ext (nf_none (fun x z => by omega) ?_)
    exact wh_0 _
