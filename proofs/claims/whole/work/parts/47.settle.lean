/-! The reference's settling; the class loses the young -/
theorem m_queue {s : St} {μ : Mem} {post : Mem → Prop} (h : MR μ s) (hw : Wf s) (hb : Bd s) (hl : lgOK s) (hbf : ∀ r x, r < 6 → bf s r = some x → sta s x ≠ 0) (hlen : (row s).length + 6 + (log s).length ≤ 262) (hp : ∀ μ1, MR μ1 (qrl s) → Fr moS μ μ1 → post μ1) :
    ∃ n24, wM_settle_32 (fun v8 μ7 => ∃ n23, wM_settle_56 (fun v21 μ20 => ∀ μ22, μ22 = sI μ20 17 24 0 → post μ22) n23 0 μ7) n24 0 μ := by
  have m17 : moS 17 := by unfold moS; omega
  have b6 := bfs_len s 6
  have hlen2 : (row (urow s (row s ++ bfs s 6))).length + (log (urow s (row s ++ bfs s 6))).length ≤ 262 := by
    show (row s ++ bfs s 6).length + (log s).length ≤ 262
    rw [List.length_append]
    omega
  refine ⟨7, m_bfs_loop (fun r x hr hx => hw.lt (hbf r x hr hx)) (by omega) 6 0 μ (by omega) ?_ (fun μ1 h1 hF v => ⟨(log s).length + 1, ?_⟩)⟩
  · have e0 : bfs s 0 = [] := rfl
    rw [e0, List.append_nil]
    exact h.ext (by simp only [eqS, q_cel_urow, q_sta_urow, q_ad_urow, q_sz_urow, q_tg_urow, q_ct_urow, q_co_urow, q_fl_urow, q_lg_urow, q_nx_urow, q_rt_urow, q_bf_urow, q_hf_urow, q_he_urow, q_hc_urow, q_ov_urow, q_oc_urow, q_cl_urow, q_lf_urow, q_row_urow, q_log_urow, q_tr_urow, q_ps_urow, q_mv_urow, q_wh_urow, and_self])
  · have hw2 : Wf (urow s (row s ++ bfs s 6)) := hw.ext rfl (fun _ => Iff.rfl) rfl rfl rfl rfl
    refine m_log_loop (s := urow s (row s ++ bfs s 6)) hw2 hb hl hlen2 (log s).length 0 μ1 (Nat.zero_add _) ?_ (fun μ2 h2 hF2 v2 => ?_)
    · have e0 : olds (urow s (row s ++ bfs s 6)) 0 = [] := rfl
      have e1 : qcol (urow s (row s ++ bfs s 6)) 0 = co s := by
        by_cases q : tr (urow s (row s ++ bfs s 6)) = 0
        · rw [qcol_s0 q]; rfl
        · rw [qcol_s1 q, e0, grl_nil]; rfl
      unfold qS
      rw [e0, e1, List.append_nil, lgk_0]
      exact h1.ext (by simp only [eqS, q_cel_urow, q_sta_urow, q_ad_urow, q_sz_urow, q_tg_urow, q_ct_urow, q_co_urow, q_fl_urow, q_lg_urow, q_nx_urow, q_rt_urow, q_bf_urow, q_hf_urow, q_he_urow, q_hc_urow, q_ov_urow, q_oc_urow, q_cl_urow, q_lf_urow, q_row_urow, q_log_urow, q_tr_urow, q_ps_urow, q_mv_urow, q_wh_urow, q_cel_uco, q_sta_uco, q_ad_uco, q_sz_uco, q_tg_uco, q_ct_uco, q_co_uco, q_fl_uco, q_lg_uco, q_nx_uco, q_rt_uco, q_bf_uco, q_hf_uco, q_he_uco, q_hc_uco, q_ov_uco, q_oc_uco, q_cl_uco, q_lf_uco, q_row_uco, q_log_uco, q_tr_uco, q_ps_uco, q_mv_uco, q_wh_uco, q_cel_ulg, q_sta_ulg, q_ad_ulg, q_sz_ulg, q_tg_ulg, q_ct_ulg, q_co_ulg, q_fl_ulg, q_lg_ulg, q_nx_ulg, q_rt_ulg, q_bf_ulg, q_hf_ulg, q_he_ulg, q_hc_ulg, q_ov_ulg, q_oc_ulg, q_cl_ulg, q_lf_ulg, q_row_ulg, q_log_ulg, q_tr_ulg, q_ps_ulg, q_mv_ulg, q_wh_ulg, and_self])
    · intro μ22 e22
      subst e22
      refine hp _ ?_ ((hF.trans hF2).trans (Fr.sI m17))
      exact h2.logset (l := []) (fun r j _ _ hn => mI_no hn) (mI_sI_self _ _ _ _) (fun k x i o hk => by simp at hk)
theorem m_settle {s : St} {μ : Mem} {post : Mem → Prop} (h : MR μ s) (hw : Wf s) (hb : Bd s) (hb2 : Bd (lsQ s (yg s))) (hl : lgOK (lsQ s (yg s))) (hbf : ∀ r x, r < 6 → bf s r = some x → sta (lsQ s (yg s)) x ≠ 0) (hlen : (row s).length + 6 + (log s).length ≤ 262) (hp : ∀ μ1, MR μ1 (qrl (lsQ s (yg s))) → Fr moS μ μ1 → post μ1) : wM_settle post μ := by
  unfold wM_settle
  refine ⟨257, m_young_loop hw hb 256 0 μ (by omega) (h.ext (ls_none (fun x z => by have := z.2; omega))) (fun μ1 h1 hF v => ?_)⟩
  exact m_queue h1 (wf_ls hw _) hb2 hl hbf hlen (fun μ2 h2 hF2 => hp μ2 h2 (hF.trans hF2))
theorem c_loseYoung {s : St} {ι : Nat → Nat} {d : Int32} {μ : Mem} {post : Mem → Prop} (h : CR μ s ι d (lv s)) (hw : Wf s) (hb : Bd s) (ha : Ag s) (hp : ∀ μ1, CR μ1 (lsQ s (yg s)) ι d (lv (lsQ s (yg s))) → Fr clS μ μ1 → post μ1) : wC_loseYoung post μ := by
  unfold wC_loseYoung
  refine ⟨129, c_young_loop (ι := ι) (d := d) hw hb ha 128 0 μ (by omega) (h.ext (ls_none (fun x z => by have := z.2; omega))) (fun μ1 h1 hF v => hp μ1 (h1.sub (fun x hx => ?_)) hF)⟩
  exact (lsT_live.mp (show lsT s (yg s) x ≠ 0 from hx)).1
