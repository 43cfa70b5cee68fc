/-! The log's old values are queued, its marks cleared: both sides -/
def lgOK (s : St) : Prop := (log s).length ≤ 128 ∧ (∀ (k x i : Nat) (o : Option Nat), (log s)[k]? = some (x, i, o) → sta s x ≠ 0 ∧ i < sz s x) ∧ ∀ (k x i y : Nat), (log s)[k]? = some (x, i, some y) → sta s y ≠ 0
theorem qcol_s0 {s : St} (h : tr s = 0) (k : Nat) : qcol s k = co s := if_pos h
theorem qcol_s1 {s : St} (h : ¬ tr s = 0) (k : Nat) : qcol s k = grl s (olds s k) := if_neg h
def qS (s : St) (k : Nat) : St := uco (urow s (row s ++ olds s k)) (qcol s k)
def qlg (s : St) : St := ulog (ulg (qS s (log s).length) (lgk s (log s).length)) []
theorem q_none {s : St} {k x i : Nat} (h : (log s)[k]? = some (x, i, none)) : qS s (k + 1) = qS s k := by
  have e : olds s (k + 1) = olds s k := by
    rw [olds_s h]
    simp
  unfold qS qcol
  rw [e]
theorem olds_some {s : St} {k x i y : Nat} (h : (log s)[k]? = some (x, i, some y)) : olds s (k + 1) = olds s k ++ [y] := by
  rw [olds_s h]
  simp
theorem m_106 {s t : St} {k x i : Nat} {o : Option Nat} {μ : Mem} {K : Int32 → Mem → Prop} (hlog : (log s)[k]? = some (x, i, o)) (hk : k < 128) (hx : x < 256) (hi : i < 12) (h : MR μ (ulg t (lgk s k))) (et : log t = log s) (hp : ∀ μ1, MR μ1 (ulg t (lgk s (k + 1))) → Fr moS μ μ1 → K (nI (k + 1)) μ1) : wM_settle_106 (nI k) K μ := by
  have m26 : moS 26 := by unfold moS; omega
  have p := (h.plog k x i o (by rw [q_log_ulg, et]; exact hlog)).1
  unfold wM_settle_106
  rw [nI_clamp (by omega), p, nI_clamp (by omega), nI_1]
  refine ⟨(nI_vp (by omega)).mpr (by omega), (nI_vp (by omega)).mpr (by omega), ?_⟩
  intro μ13 e13
  subst e13
  have h2 := h.w_lg (x := x) (i := i) (v := 0) hi
  rw [qq_ulg, q_lg_ulg, lgk_s hlog] at h2
  exact hp _ h2 (Fr.sI m26)
theorem m_log_loop {s : St} (hw : Wf s) (hb : Bd s) (hl : lgOK s) (hlen : (row s).length + (log s).length ≤ 262) {K : Int32 → Mem → Prop} : ∀ (e k : Nat) (μ : Mem), k + e = (log s).length → MR μ (ulg (qS s k) (lgk s k)) → (∀ μ1, MR μ1 (ulg (qS s (log s).length) (lgk s (log s).length)) → Fr moS μ μ1 → ∀ v, K v μ1) → wM_settle_56 K (e + 1) (nI k) μ := by
  have m24 : moS 24 := by unfold moS; omega
  obtain ⟨l1, l2, l3⟩ := hl
  intro e
  induction e with
  | zero =>
    intro k μ hk hM h
    have : k = (log s).length := by omega
    subst this
    have pN : mI μ 17 24 = nI (log s).length := hM.plogN
    unfold wM_settle_56
    rw [pN, nI_leI (by omega) (by omega)]
    exact ⟨fun _ => h μ hM (Fr.refl μ) _, fun q => absurd (Nat.le_refl _) q⟩
  | succ e ih =>
    intro k μ hk hM h
    have hk2 : k < (log s).length := by omega
    have pN : mI μ 17 24 = nI (log s).length := hM.plogN
    obtain ⟨⟨x, i, o⟩, hlog⟩ : ∃ z, (log s)[k]? = some z := ⟨_, List.getElem?_eq_getElem hk2⟩
    obtain ⟨hx, hi⟩ := l2 k x i o hlog
    have hx2 := hw.lt hx
    have hi2 : i < 12 := by have := hw.sz12 hx; omega
    have p2 : mI μ 32 k = eo o := (hM.plog k x i o hlog).2
    have ho := olds_len s k
    have next : ∀ μ1, MR μ1 (ulg (qS s (k + 1)) (lgk s (k + 1))) → Fr moS μ μ1 → wM_settle_56 K (e + 1) (nI (k + 1)) μ1 := fun μ1 h1 hF => ih (k + 1) μ1 (by omega) h1 (fun μ2 h2 hF2 v => h μ2 h2 (hF.trans hF2) v)
    unfold wM_settle_56
    rw [pN, nI_leI (by omega) (by omega), nI_clamp (by omega), p2]
    refine ⟨fun q => absurd q (by omega), fun _ => ⟨(nI_vp (by omega)).mpr (by omega), ?_⟩⟩
    cases o with
    | none =>
      have en := q_none hlog
      have done : wM_settle_106 (nI k) (wM_settle_56 K (e + 1)) μ := m_106 hlog (by omega) hx2 hi2 hM rfl (fun μ1 h1 hF => next μ1 (by rw [en]; exact h1) hF)
      refine m_wait_none ⟨fun _ => done, fun _ => ⟨(nI_vp (by omega)).mpr (by omega), ?_⟩⟩
      rw [p2]
      exact m_isWhite_none ⟨fun _ => done, fun q => absurd rfl q⟩
    | some y =>
      have hy := l3 k x i y hlog
      have hy2 := hw.lt hy
      have eo' := olds_some hlog
      refine m_wait (y := y) hM (by omega) (by show (row s ++ olds s k).length < 700; rw [List.length_append]; omega) (fun μ1 h1 hF => ?_)
      have h1' : MR μ1 (ulg (uco (urow s (row s ++ olds s (k + 1))) (qcol s k)) (lgk s k)) := by
        rw [eo', ← List.append_assoc]
        exact h1.ext (by simp only [eqS, qS, q_cel_ulg, q_sta_ulg, q_ad_ulg, q_sz_ulg, q_tg_ulg, q_ct_ulg, q_co_ulg, q_fl_ulg, q_lg_ulg, q_nx_ulg, q_rt_ulg, q_bf_ulg, q_hf_ulg, q_he_ulg, q_hc_ulg, q_ov_ulg, q_oc_ulg, q_cl_ulg, q_lf_ulg, q_row_ulg, q_log_ulg, q_tr_ulg, q_ps_ulg, q_mv_ulg, q_wh_ulg, q_cel_uco, q_sta_uco, q_ad_uco, q_sz_uco, q_tg_uco, q_ct_uco, q_co_uco, q_fl_uco, q_lg_uco, q_nx_uco, q_rt_uco, q_bf_uco, q_hf_uco, q_he_uco, q_hc_uco, q_ov_uco, q_oc_uco, q_cl_uco, q_lf_uco, q_row_uco, q_log_uco, q_tr_uco, q_ps_uco, q_mv_uco, q_wh_uco, q_cel_urow, q_sta_urow, q_ad_urow, q_sz_urow, q_tg_urow, q_ct_urow, q_co_urow, q_fl_urow, q_lg_urow, q_nx_urow, q_rt_urow, q_bf_urow, q_hf_urow, q_he_urow, q_hc_urow, q_ov_urow, q_oc_urow, q_cl_urow, q_lf_urow, q_row_urow, q_log_urow, q_tr_urow, q_ps_urow, q_mv_urow, q_wh_urow, and_self])
      have pT : mI μ1 17 27 = nI (tr s) := h1'.ptr
      have p3 : mI μ1 32 k = nI y := (h1'.plog k x i (some y) hlog).2
      have bt := hb.2.2.2
      rw [pT, li_0, nI_eq (by omega) (by omega)]
      refine ⟨fun q => ?_, fun q => ⟨(nI_vp (by omega)).mpr (by omega), ?_⟩⟩
      · refine m_106 hlog (by omega) hx2 hi2 h1' rfl (fun μ2 h2 hF2 => next μ2 ?_ (hF.trans hF2))
        unfold qS
        rw [qcol_s0 q] at h2 ⊢
        exact h2
      · rw [qcol_s1 q] at h1'
        have fin : ∀ μ2, MR μ2 (ulg (uco (urow s (row s ++ olds s (k + 1))) (grl s (olds s (k + 1)))) (lgk s k)) → Fr moS μ1 μ2 → wM_settle_106 (nI k) (wM_settle_56 K (e + 1)) μ2 := by
          intro μ2 h2 hF2
          refine m_106 hlog (by omega) hx2 hi2 h2 rfl (fun μ3 h3 hF3 => next μ3 ?_ ((hF.trans hF2).trans hF3))
          unfold qS
          rw [qcol_s1 q]
          exact h3
        rw [p3]
        have es : sta (ulg (uco (urow s (row s ++ olds s (k + 1))) (grl s (olds s k))) (lgk s k)) y = sta s y := rfl
        have ec : co (ulg (uco (urow s (row s ++ olds s (k + 1))) (grl s (olds s k))) (lgk s k)) y = grl s (olds s k) y := rfl
        refine m_isWhite h1' hy2 (by rw [es]; exact hb.1 y) (by rw [ec]; exact grl_le hb.2.2.1 y) (fun w => ⟨fun z => absurd z (by decide), fun _ => ?_⟩) (fun w => ⟨fun _ => ?_, fun z => absurd rfl z⟩)
        · rw [p3, nI_clamp (by omega)]
          refine ⟨(nI_vp (by omega)).mpr (by omega), (nI_vp (by omega)).mpr hy2, ?_⟩
          intro μ19 e19
          subst e19
          refine fin _ ?_ (Fr.sI m24)
          have h2 : MR (sI μ1 24 y 1) _ := h1'.w_co (x := y) (v := 1)
          rw [q_co_ulg, q_co_uco] at h2
          have w1 : sta s y = 2 := w.1
          have w2 : grl s (olds s k) y = 0 := w.2
          rw [← grl_hit ⟨w1, w2⟩, ← eo'] at h2
          exact h2.ext (by simp only [eqS, q_cel_ulg, q_sta_ulg, q_ad_ulg, q_sz_ulg, q_tg_ulg, q_ct_ulg, q_co_ulg, q_fl_ulg, q_lg_ulg, q_nx_ulg, q_rt_ulg, q_bf_ulg, q_hf_ulg, q_he_ulg, q_hc_ulg, q_ov_ulg, q_oc_ulg, q_cl_ulg, q_lf_ulg, q_row_ulg, q_log_ulg, q_tr_ulg, q_ps_ulg, q_mv_ulg, q_wh_ulg, q_cel_uco, q_sta_uco, q_ad_uco, q_sz_uco, q_tg_uco, q_ct_uco, q_co_uco, q_fl_uco, q_lg_uco, q_nx_uco, q_rt_uco, q_bf_uco, q_hf_uco, q_he_uco, q_hc_uco, q_ov_uco, q_oc_uco, q_cl_uco, q_lf_uco, q_row_uco, q_log_uco, q_tr_uco, q_ps_uco, q_mv_uco, q_wh_uco, q_cel_urow, q_sta_urow, q_ad_urow, q_sz_urow, q_tg_urow, q_ct_urow, q_co_urow, q_fl_urow, q_lg_urow, q_nx_urow, q_rt_urow, q_bf_urow, q_hf_urow, q_he_urow, q_hc_urow, q_ov_urow, q_oc_urow, q_cl_urow, q_lf_urow, q_row_urow, q_log_urow, q_tr_urow, q_ps_urow, q_mv_urow, q_wh_urow, and_self])
        · refine fin μ1 ?_ (Fr.refl μ1)
          have e5 : grl s (olds s (k + 1)) = grl s (olds s k) := by
            have w1 : ¬ (sta s y = 2 ∧ grl s (olds s k) y = 0) := fun z => w z
            rw [eo', grl_miss w1]
          conv at h1' => rw [← e5]
          exact h1'
