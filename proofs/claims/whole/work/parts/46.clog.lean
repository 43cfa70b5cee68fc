/-! The class's log: queued, cleared -/
theorem CR.logN {μ : Mem} {s : St} {ι : Nat → Nat} {d : Int32} {P : Nat → Prop} (h : CR μ s ι d P) : mI μ 9 3 = nI (log s).length := h.plo.1
theorem c_log_loop {s : St} {ι : Nat → Nat} {d : Int32} (hb : Bd s) (ha : Ag s) (hl : lgOK s) (hlen : (row s).length + (log s).length ≤ 262) {K : Int32 → Mem → Prop} : ∀ (e k : Nat) (μ : Mem), k + e = (log s).length → CR μ (qS s k) ι d (lv s) → (∀ μ1, CR μ1 (qS s (log s).length) ι d (lv s) → Fr clS μ μ1 → ∀ v, K v μ1) → wC_queueRootsAndLog_42 K (e + 1) (nI k) μ := by
  obtain ⟨l1, l2, l3⟩ := hl
  intro e
  induction e with
  | zero =>
    intro k μ hk hM h
    have : k = (log s).length := by omega
    subst this
    have pN : mI μ 9 3 = nI (log s).length := hM.logN
    unfold wC_queueRootsAndLog_42
    rw [pN, nI_leI (by omega) (by omega)]
    exact ⟨fun _ => h μ hM (Fr.refl μ) _, fun q => absurd (Nat.le_refl _) q⟩
  | succ e ih =>
    intro k μ hk hM h
    have hk2 : k < (log s).length := by omega
    have pN : mI μ 9 3 = nI (log s).length := hM.logN
    obtain ⟨⟨x, i, o⟩, hlog⟩ : ∃ z, (log s)[k]? = some z := ⟨_, List.getElem?_eq_getElem hk2⟩
    have p2 : mR μ 12 k = o.map ι := (hM.plo.2.2 k x i o hlog).2.2
    have ho := olds_len s k
    unfold wC_queueRootsAndLog_42 wG_heldBefore
    rw [pN, nI_leI (by omega) (by omega), nI_clamp (by omega), p2, nI_1]
    refine ⟨fun q => absurd q (by omega), fun _ => ⟨(nI_vp (by omega)).mpr (by omega), ?_⟩⟩
    intro e2 he2
    cases o with
    | none =>
      subst he2
      rw [← q_none hlog] at hM
      exact ⟨fun _ => ih (k + 1) μ (by omega) hM h, fun y hy => (by cases hy)⟩
    | some y =>
      subst he2
      have hy := l3 k x i y hlog
      have eo' := olds_some hlog
      refine ⟨fun q => (by cases q), fun y9 hy9 => ?_⟩
      have : ι y = y9 := Option.some.inj hy9
      subst this
      refine c_wait hM hy (by show (row s ++ olds s k).length < 262; rw [List.length_append]; omega) (fun μ1 h1 hF => ?_)
      have h1' : CR μ1 (uco (urow s (row s ++ olds s (k + 1))) (qcol s k)) ι d (lv s) := by
        rw [eo', ← List.append_assoc]
        exact h1.ext (by simp only [eqS, qS, q_cel_uco, q_sta_uco, q_ad_uco, q_sz_uco, q_tg_uco, q_ct_uco, q_co_uco, q_fl_uco, q_lg_uco, q_nx_uco, q_rt_uco, q_bf_uco, q_hf_uco, q_he_uco, q_hc_uco, q_ov_uco, q_oc_uco, q_cl_uco, q_lf_uco, q_row_uco, q_log_uco, q_tr_uco, q_ps_uco, q_mv_uco, q_wh_uco, q_cel_urow, q_sta_urow, q_ad_urow, q_sz_urow, q_tg_urow, q_ct_urow, q_co_urow, q_fl_urow, q_lg_urow, q_nx_urow, q_rt_urow, q_bf_urow, q_hf_urow, q_he_urow, q_hc_urow, q_ov_urow, q_oc_urow, q_cl_urow, q_lf_urow, q_row_urow, q_log_urow, q_tr_urow, q_ps_urow, q_mv_urow, q_wh_urow, and_self])
      have pT : mI μ1 0 7 = nI (tr s) := h1'.ptr
      have bt := hb.2.2.2
      rw [pT, li_0, nI_eq (by omega) (by omega)]
      refine ⟨fun q => ?_, fun q => ?_⟩
      · refine ih (k + 1) μ1 (by omega) ?_ (fun μ2 h2 hF2 v => h μ2 h2 (hF.trans hF2) v)
        unfold qS
        rw [qcol_s0 q] at h1' ⊢
        exact h1'
      · rw [qcol_s1 q] at h1'
        refine ⟨(h1'.it y hy).o, c_grey h1' hy (hb.2.1 y) hb.2.2.1 (ha.iff hy) (fun μ2 h2 hF2 => ?_)⟩
        refine ih (k + 1) μ2 (by omega) ?_ (fun μ3 h3 hF3 v => h μ3 h3 ((hF.trans hF2).trans hF3) v)
        unfold qS
        rw [qcol_s1 q, ← eo'] at *
        exact h2
theorem c_clear_loop {s t : St} {ι : Nat → Nat} {d : Int32} (hl : lgOK s) (hsz : ∀ x, sta s x ≠ 0 → sz s x ≤ 12) (et : log t = log s) (ez : sz t = sz s) {K : Int32 → Mem → Prop} : ∀ (e k : Nat) (μ : Mem), k + e = (log s).length → CR μ (ulg t (lgk s k)) ι d (lv s) → (∀ μ1, CR μ1 (ulg t (lgk s (log s).length)) ι d (lv s) → Fr clS μ μ1 → ∀ v, K v μ1) → wG_clear_2 K (e + 1) (nI k) μ := by
  obtain ⟨l1, l2, l3⟩ := hl
  intro e
  induction e with
  | zero =>
    intro k μ hk hM h
    have : k = (log s).length := by omega
    subst this
    have pN : mI μ 9 3 = nI (log s).length := by rw [← et]; exact hM.logN
    unfold wG_clear_2
    rw [pN, nI_leI (by omega) (by omega)]
    exact ⟨fun _ => h μ hM (Fr.refl μ) _, fun q => absurd (Nat.le_refl _) q⟩
  | succ e ih =>
    intro k μ hk hM h
    have hk2 : k < (log s).length := by omega
    have pN : mI μ 9 3 = nI (log s).length := by rw [← et]; exact hM.logN
    obtain ⟨⟨x, i, o⟩, hlog⟩ : ∃ z, (log s)[k]? = some z := ⟨_, List.getElem?_eq_getElem hk2⟩
    obtain ⟨hx, hi⟩ := l2 k x i o hlog
    have h12 := hsz x hx
    have p := hM.plo.2.2 k x i o (by rw [q_log_ulg, et]; exact hlog)
    have hit := hM.it x hx
    have h35 := hit.i35
    have pl : mL μ (ι x + 2) = sz s x := by rw [← ez]; exact hit.l2
    unfold wG_clear_2
    rw [pN, nI_leI (by omega) (by omega), nI_clamp (by omega), p.1, p.2.1, nI_clamp (by omega), nI_1]
    refine ⟨fun q => absurd q (by omega), fun _ => ⟨(nI_vp (by omega)).mpr (by omega), ?_⟩⟩
    intro e2 he2
    subst he2
    refine ⟨ι x, rfl, hit.o, hit.o2, ?_, ?_⟩
    · rw [pl]
      exact (nI_vp (by omega)).mpr hi
    · intro μ7 e7
      subst e7
      have h2 : CR (sI μ (ι x + 2) i 0) _ ι d (lv s) := hM.w_lg (x := x) (i := i) (v := 0) hx
      rw [qq_ulg, q_lg_ulg, lgk_s hlog] at h2
      exact ih (k + 1) _ (by omega) h2 (fun μ1 h1 hF v => h μ1 h1 ((Fr.sI (by unfold clS; omega)).trans hF) v)
/-- roots of the last pause, then the log -/
def qrl (s : St) : St := qlg (urow s (row s ++ bfs s 6))
theorem c_queue {s : St} {ι : Nat → Nat} {d : Int32} {μ : Mem} {post : Mem → Prop} (h : CR μ s ι d (lv s)) (hw : Wf s) (hb : Bd s) (ha : Ag s) (hl : lgOK s) (hbf : ∀ r x, r < 6 → bf s r = some x → sta s x ≠ 0) (hlen : (row s).length + 6 + (log s).length ≤ 262) (hp : ∀ μ1, CR μ1 (qrl s) ι d (lv s) → Fr clS μ μ1 → post μ1) : wC_queueRootsAndLog post μ := by
  have b6 := bfs_len s 6
  have hlen2 : (row (urow s (row s ++ bfs s 6))).length + (log (urow s (row s ++ bfs s 6))).length ≤ 262 := by
    show (row s ++ bfs s 6).length + (log s).length ≤ 262
    rw [List.length_append]
    omega
  unfold wC_queueRootsAndLog
  refine ⟨7, c_bfs_loop (ι := ι) (d := d) (P := lv s) hbf (by omega) 6 0 μ (by omega) ?_ (fun μ1 h1 hF v => ⟨(log s).length + 1, ?_⟩)⟩
  · have e0 : bfs s 0 = [] := rfl
    rw [e0, List.append_nil]
    exact h.ext (by simp only [eqS, q_cel_urow, q_sta_urow, q_ad_urow, q_sz_urow, q_tg_urow, q_ct_urow, q_co_urow, q_fl_urow, q_lg_urow, q_nx_urow, q_rt_urow, q_bf_urow, q_hf_urow, q_he_urow, q_hc_urow, q_ov_urow, q_oc_urow, q_cl_urow, q_lf_urow, q_row_urow, q_log_urow, q_tr_urow, q_ps_urow, q_mv_urow, q_wh_urow, and_self])
  · refine c_log_loop (s := urow s (row s ++ bfs s 6)) (ι := ι) (d := d) hb ha hl hlen2 (log s).length 0 μ1 (Nat.zero_add _) ?_ (fun μ2 h2 hF2 v2 => ?_)
    · have e0 : olds (urow s (row s ++ bfs s 6)) 0 = [] := rfl
      have e1 : qcol (urow s (row s ++ bfs s 6)) 0 = co s := by
        by_cases q : tr (urow s (row s ++ bfs s 6)) = 0
        · rw [qcol_s0 q]; rfl
        · rw [qcol_s1 q, e0, grl_nil]; rfl
      unfold qS
      rw [e0, e1, List.append_nil]
      exact h1.ext (by simp only [eqS, q_cel_urow, q_sta_urow, q_ad_urow, q_sz_urow, q_tg_urow, q_ct_urow, q_co_urow, q_fl_urow, q_lg_urow, q_nx_urow, q_rt_urow, q_bf_urow, q_hf_urow, q_he_urow, q_hc_urow, q_ov_urow, q_oc_urow, q_cl_urow, q_lf_urow, q_row_urow, q_log_urow, q_tr_urow, q_ps_urow, q_mv_urow, q_wh_urow, q_cel_uco, q_sta_uco, q_ad_uco, q_sz_uco, q_tg_uco, q_ct_uco, q_co_uco, q_fl_uco, q_lg_uco, q_nx_uco, q_rt_uco, q_bf_uco, q_hf_uco, q_he_uco, q_hc_uco, q_ov_uco, q_oc_uco, q_cl_uco, q_lf_uco, q_row_uco, q_log_uco, q_tr_uco, q_ps_uco, q_mv_uco, q_wh_uco, and_self])
    · unfold wG_clear
      refine ⟨(log s).length + 1, c_clear_loop (s := urow s (row s ++ bfs s 6)) (t := qS (urow s (row s ++ bfs s 6)) (log s).length) (ι := ι) (d := d) hl (fun x hx => hw.sz12 hx) rfl rfl (log s).length 0 μ2 (Nat.zero_add _) ?_ (fun μ3 h3 hF3 v3 => ?_)⟩
      · rw [lgk_0]
        exact h2.ext (by simp only [eqS, qS, q_cel_urow, q_sta_urow, q_ad_urow, q_sz_urow, q_tg_urow, q_ct_urow, q_co_urow, q_fl_urow, q_lg_urow, q_nx_urow, q_rt_urow, q_bf_urow, q_hf_urow, q_he_urow, q_hc_urow, q_ov_urow, q_oc_urow, q_cl_urow, q_lf_urow, q_row_urow, q_log_urow, q_tr_urow, q_ps_urow, q_mv_urow, q_wh_urow, q_cel_uco, q_sta_uco, q_ad_uco, q_sz_uco, q_tg_uco, q_ct_uco, q_co_uco, q_fl_uco, q_lg_uco, q_nx_uco, q_rt_uco, q_bf_uco, q_hf_uco, q_he_uco, q_hc_uco, q_ov_uco, q_oc_uco, q_cl_uco, q_lf_uco, q_row_uco, q_log_uco, q_tr_uco, q_ps_uco, q_mv_uco, q_wh_uco, q_cel_ulg, q_sta_ulg, q_ad_ulg, q_sz_ulg, q_tg_ulg, q_ct_ulg, q_co_ulg, q_fl_ulg, q_lg_ulg, q_nx_ulg, q_rt_ulg, q_bf_ulg, q_hf_ulg, q_he_ulg, q_hc_ulg, q_ov_ulg, q_oc_ulg, q_cl_ulg, q_lf_ulg, q_row_ulg, q_log_ulg, q_tr_ulg, q_ps_ulg, q_mv_ulg, q_wh_ulg, and_self])
      · intro μ10 e10
        subst e10
        have hFl : Fr lgS μ3 (sI μ3 9 3 0) := Fr.sI (by unfold lgS; omega)
        refine hp _ ?_ (((hF.trans hF2).trans hF3).trans (hFl.mono (fun r hr => by unfold lgS at hr; unfold clS; omega)))
        refine h3.wlog hFl ⟨mI_sI_self _ _ _ _, by simp, fun k x i o hk => ?_⟩
        simp at hk
