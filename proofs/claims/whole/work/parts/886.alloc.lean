/-! A new object: both sides -/
theorem least {P : Nat → Prop} : ∀ n, P n → ∃ m, P m ∧ ∀ j, j < m → ¬ P j := by
  intro n
  induction n using Nat.strongRecOn with
  | _ n ih =>
    intro h
    by_cases e : ∃ j, j < n ∧ P j
    · obtain ⟨j, hj, hp⟩ := e
      exact ih j hj hp
    · exact ⟨n, h, fun j hj hp => e ⟨j, hj, hp⟩⟩
theorem free_ex {s : St} (hw : Wf s) : ∃ y, y < 256 ∧ sta s y = 0 := by
  by_cases e : ∃ y, y < 256 ∧ sta s y = 0
  · exact e
  · exfalso
    have h1 := sum_sz hw
    have h2 : sm (fun _ => 1) 256 ≤ sm (wLv s (sz s)) 256 := by
      refine sm_le (fun y hy => ?_)
      have hl : sta s y ≠ 0 := fun q => e ⟨y, hy, q⟩
      unfold wLv
      rw [if_neg hl]
      exact hw.sz1 hl
    rw [sm_1s] at h2
    omega
theorem free_dist {s : St} (hw : Wf s) {n : Nat} (hn : n < 256) : ∃ e, sta s ((n + e) % 256) = 0 ∧ ∀ j, j < e → ¬ sta s ((n + j) % 256) = 0 := by
  obtain ⟨y, hy, h0⟩ := free_ex hw
  refine least (P := fun e => sta s ((n + e) % 256) = 0) (y + 256 - n) ?_
  show sta s ((n + (y + 256 - n)) % 256) = 0
  rw [show (n + (y + 256 - n)) % 256 = y by omega]
  exact h0
def nwM (s : St) (x n : Nat) (t : Int32) : St := ulg (ufl (uco (uct (utg (usz (usta (unx s ((x + 1) % 256)) (up (sta s) x 1)) (up (sz s) x n)) (up (tg s) x t)) (up (ct s) x 0)) (up (co s) x 0)) (fun y i => if y = x then none else fl s y i)) (fun y i => if y = x then 0 else lg s y i)
def alc (s : St) (x n : Nat) (t : Int32) (a r : Nat) : St := urt (lay (nwM s x n t) x a) (up (rt s) r (some x))
theorem m_make_loop {s : St} (hb : Bd s) {K : Mem → Prop} : ∀ (e n : Nat) (μ : Mem), n < 256 → MR μ (unx s n) → sta s ((n + e) % 256) = 0 → (∀ j, j < e → ¬ sta s ((n + j) % 256) = 0) → (∀ μ1, MR μ1 (unx s ((n + e) % 256)) → Fr moS μ μ1 → K μ1) → wM_make_0 K (e + 1) μ := by
  have m17 : moS 17 := by unfold moS; omega
  intro e
  induction e with
  | zero =>
    intro n μ hn hM h0 _ hp
    have en : (n + 0) % 256 = n := by omega
    rw [en] at h0 hp
    have p1 : mI μ 17 10 = nI n := hM.pnx
    have p2 : mI μ 19 n = nI (sta s n) := hM.psta n hn
    unfold wM_make_0
    rw [p1, nI_clamp (by omega), p2, h0]
    exact ⟨(nI_vp (by omega)).mpr hn, fun _ => hp μ hM (Fr.refl μ), fun q => absurd rfl q⟩
  | succ e ih =>
    intro n μ hn hM h0 hj hp
    have p1 : mI μ 17 10 = nI n := hM.pnx
    have p2 : mI μ 19 n = nI (sta s n) := hM.psta n hn
    have hne : ¬ sta s n = 0 := by
      have := hj 0 (by omega)
      rw [show (n + 0) % 256 = n by omega] at this
      exact this
    have hs2 := hb.1 n
    have em : nI n + 1 - (nI n + 1) / 256 * 256 = nI ((n + 1) % 256) := by
      rw [nI_1]
      exact nI_rem (b := 256) (by omega) (by omega)
    unfold wM_make_0
    rw [p1, nI_clamp (by omega), p2, em, li_0, nI_eq (by omega) (by omega)]
    refine ⟨(nI_vp (by omega)).mpr hn, fun q => absurd q hne, fun _ => ?_⟩
    intro μ2 e2
    subst e2
    have es : ∀ j, ((n + 1) % 256 + j) % 256 = (n + (j + 1)) % 256 := fun j => by omega
    refine ih ((n + 1) % 256) _ (by omega) ?_ (by rw [es]; exact h0) (fun j hjl => by rw [es]; exact hj (j + 1) (by omega)) (fun μ1 h1 hF => hp μ1 ?_ ((Fr.sI m17).trans hF))
    · have := hM.w_nx (v := (n + 1) % 256)
      exact this.ext (by simp only [eqS, q_cel_unx, q_sta_unx, q_ad_unx, q_sz_unx, q_tg_unx, q_ct_unx, q_co_unx, q_fl_unx, q_lg_unx, q_nx_unx, q_rt_unx, q_bf_unx, q_hf_unx, q_he_unx, q_hc_unx, q_ov_unx, q_oc_unx, q_cl_unx, q_lf_unx, q_row_unx, q_log_unx, q_tr_unx, q_ps_unx, q_mv_unx, q_wh_unx, and_self])
    · rw [es] at h1
      exact h1
theorem mr_flext {μ : Mem} {t : St} {f f' : Nat → Nat → Option Nat} (h : MR μ (ufl t f)) (e : ∀ y i, i < 12 → f' y i = f y i) : MR μ (ufl t f') :=
  ⟨h.pcel, h.psta, h.pad, h.psz, h.ptg, h.pct, h.pco, fun x i hx hi => (h.pfl x i hx hi).trans (congrArg eo (e x i hi).symm), h.plg, h.pnx, h.prt, h.pbf, h.phf, h.phe, h.phc, h.pov, h.poc, h.pcl, h.plf, h.prowN, h.prow, h.plogN, h.plog, h.ptr, h.pps, h.pmv, h.pwh⟩
theorem mr_lgext {μ : Mem} {t : St} {f f' : Nat → Nat → Nat} (h : MR μ (ulg t f)) (e : ∀ y i, i < 12 → f' y i = f y i) : MR μ (ulg t f') :=
  ⟨h.pcel, h.psta, h.pad, h.psz, h.ptg, h.pct, h.pco, h.pfl, fun x i hx hi => (h.plg x i hx hi).trans (congrArg nI (e x i hi).symm), h.pnx, h.prt, h.pbf, h.phf, h.phe, h.phc, h.pov, h.poc, h.pcl, h.plf, h.prowN, h.prow, h.plogN, h.plog, h.ptr, h.pps, h.pmv, h.pwh⟩
def flK (s : St) (x k : Nat) : Nat → Nat → Option Nat := fun y i => if y = x ∧ i < k then none else fl s y i
def lgK (s : St) (x k : Nat) : Nat → Nat → Nat := fun y i => if y = x ∧ i < k then 0 else lg s y i
theorem flK_s (s : St) (x k : Nat) : up2 (flK s x k) x k none = flK s x (k + 1) := by
  funext y i
  unfold up2 flK
  by_cases e : y = x ∧ i = k
  · rw [if_pos e, if_pos ⟨e.1, by omega⟩]
  · rw [if_neg e]
    by_cases q : y = x ∧ i < k
    · rw [if_pos q, if_pos ⟨q.1, by omega⟩]
    · rw [if_neg q, if_neg (fun z => ?_)]
      by_cases w : i = k
      · exact e ⟨z.1, w⟩
      · exact q ⟨z.1, by omega⟩
theorem lgK_s (s : St) (x k : Nat) : up2 (lgK s x k) x k 0 = lgK s x (k + 1) := by
  funext y i
  unfold up2 lgK
  by_cases e : y = x ∧ i = k
  · rw [if_pos e, if_pos ⟨e.1, by omega⟩]
  · rw [if_neg e]
    by_cases q : y = x ∧ i < k
    · rw [if_pos q, if_pos ⟨q.1, by omega⟩]
    · rw [if_neg q, if_neg (fun z => ?_)]
      by_cases w : i = k
      · exact e ⟨z.1, w⟩
      · exact q ⟨z.1, by omega⟩
theorem m_make86 {s t : St} {x : Nat} (hx : x < 256) {K : Int32 → Mem → Prop} : ∀ (e k : Nat) (μ : Mem), k + e = 12 → MR μ (ulg (ufl t (flK s x k)) (lgK s x k)) → (∀ μ1, MR μ1 (ulg (ufl t (flK s x 12)) (lgK s x 12)) → Fr moS μ μ1 → ∀ v, K v μ1) → wM_make_86 (nI x) K (e + 1) (nI k) μ := by
  have m25 : moS 25 := by unfold moS; omega
  have m26 : moS 26 := by unfold moS; omega
  intro e
  induction e with
  | zero =>
    intro k μ hk hM hp
    have : k = 12 := by omega
    subst this
    unfold wM_make_86
    rw [li_12, nI_leI (by omega) (by omega)]
    exact ⟨fun _ => hp μ hM (Fr.refl μ) _, fun q => absurd (Nat.le_refl _) q⟩
  | succ e ih =>
    intro k μ hk hM hp
    have e12 : nI 12 * nI x + nI k = nI (12 * x + k) := by rw [nI_mul, nI_add]
    unfold wM_make_86
    rw [li_12, nI_leI (by omega) (by omega), e12, nI_clamp (by omega), nI_1]
    refine ⟨fun q => absurd q (by omega), fun _ => ⟨(nI_vp (by omega)).mpr (by omega), ?_⟩⟩
    intro μ12 e2
    subst e2
    intro μ13 e3
    subst e3
    have h1 : MR (sI μ 25 (12 * x + k) (-1)) _ := hM.w_fl (x := x) (i := k) (v := none) (by omega)
    have h2 : MR (sI (sI μ 25 (12 * x + k) (-1)) 26 (12 * x + k) (nI 0)) _ := h1.w_lg (x := x) (i := k) (v := 0) (by omega)
    refine ih (k + 1) _ (by omega) ?_ (fun μ1 h3 hF => hp μ1 h3 (((Fr.sI m25).trans (Fr.sI m26)).trans hF))
    rw [← flK_s, ← lgK_s]
    exact h2.ext (by simp only [eqS, q_cel_ufl, q_sta_ufl, q_ad_ufl, q_sz_ufl, q_tg_ufl, q_ct_ufl, q_co_ufl, q_fl_ufl, q_lg_ufl, q_nx_ufl, q_rt_ufl, q_bf_ufl, q_hf_ufl, q_he_ufl, q_hc_ufl, q_ov_ufl, q_oc_ufl, q_cl_ufl, q_lf_ufl, q_row_ufl, q_log_ufl, q_tr_ufl, q_ps_ufl, q_mv_ufl, q_wh_ufl, q_cel_ulg, q_sta_ulg, q_ad_ulg, q_sz_ulg, q_tg_ulg, q_ct_ulg, q_co_ulg, q_fl_ulg, q_lg_ulg, q_nx_ulg, q_rt_ulg, q_bf_ulg, q_hf_ulg, q_he_ulg, q_hc_ulg, q_ov_ulg, q_oc_ulg, q_cl_ulg, q_lf_ulg, q_row_ulg, q_log_ulg, q_tr_ulg, q_ps_ulg, q_mv_ulg, q_wh_ulg, and_self])
theorem m_make {s : St} {n : Nat} {t : Int32} {e : Nat} {μ : Mem} {post : Int32 → Mem → Prop} (hM : MR μ s) (hb : Bd s) (hn : nx s < 256) (h0 : sta s ((nx s + e) % 256) = 0) (hj : ∀ j, j < e → ¬ sta s ((nx s + j) % 256) = 0) (hp : ∀ μ1, MR μ1 (nwM s ((nx s + e) % 256) n t) → Fr moS μ μ1 → post (nI ((nx s + e) % 256)) μ1) : wM_make (nI n) t post μ := by
  have m17 : moS 17 := by unfold moS; omega
  have m19 : moS 19 := by unfold moS; omega
  have m21 : moS 21 := by unfold moS; omega
  have m22 : moS 22 := by unfold moS; omega
  have m23 : moS 23 := by unfold moS; omega
  have m24 : moS 24 := by unfold moS; omega
  unfold wM_make
  refine ⟨e + 1, m_make_loop hb e (nx s) μ hn (hM.ext (by simp only [eqS, q_cel_unx, q_sta_unx, q_ad_unx, q_sz_unx, q_tg_unx, q_ct_unx, q_co_unx, q_fl_unx, q_lg_unx, q_nx_unx, q_rt_unx, q_bf_unx, q_hf_unx, q_he_unx, q_hc_unx, q_ov_unx, q_oc_unx, q_cl_unx, q_lf_unx, q_row_unx, q_log_unx, q_tr_unx, q_ps_unx, q_mv_unx, q_wh_unx, and_self])) h0 hj (fun μ3 h3 hF3 => ?_)⟩
  have hx : (nx s + e) % 256 < 256 := Nat.mod_lt _ (by decide)
  generalize hxe : (nx s + e) % 256 = x at *
  have p1 : mI μ3 17 10 = nI x := h3.pnx
  have em : nI x + 1 - (nI x + 1) / 256 * 256 = nI ((x + 1) % 256) := by
    rw [nI_1]
    exact nI_rem (b := 256) (by omega) (by omega)
  rw [p1, em, nI_clamp (by omega)]
  intro μ4 e4
  subst e4
  refine ⟨(nI_vp (by omega)).mpr hx, ?_⟩
  intro μ6 e6
  subst e6
  intro μ7 e7
  subst e7
  intro μ8 e8
  subst e8
  intro μ9 e9
  subst e9
  intro μ10 e10
  subst e10
  have w1 : MR (sI μ3 17 10 (nI ((x + 1) % 256))) (unx s ((x + 1) % 256)) := (h3.w_nx (v := (x + 1) % 256)).ext (by simp only [eqS, q_cel_unx, q_sta_unx, q_ad_unx, q_sz_unx, q_tg_unx, q_ct_unx, q_co_unx, q_fl_unx, q_lg_unx, q_nx_unx, q_rt_unx, q_bf_unx, q_hf_unx, q_he_unx, q_hc_unx, q_ov_unx, q_oc_unx, q_cl_unx, q_lf_unx, q_row_unx, q_log_unx, q_tr_unx, q_ps_unx, q_mv_unx, q_wh_unx, and_self])
  have w2 : MR (sI (sI μ3 17 10 (nI ((x + 1) % 256))) 19 x (nI 1)) _ := w1.w_sta (x := x) (v := 1)
  have w3 := w2.w_sz (x := x) (v := n)
  have w4 := w3.w_tg (x := x) (v := t)
  have w5 : MR (sI (sI (sI (sI (sI μ3 17 10 (nI ((x + 1) % 256))) 19 x (nI 1)) 21 x (nI n)) 22 x t) 23 x (nI 0)) _ := w4.w_ct (x := x) (v := 0)
  have w6 : MR (sI (sI (sI (sI (sI (sI μ3 17 10 (nI ((x + 1) % 256))) 19 x (nI 1)) 21 x (nI n)) 22 x t) 23 x (nI 0)) 24 x (nI 0)) _ := w5.w_co (x := x) (v := 0)
  have hFa : Fr moS μ3 (sI (sI (sI (sI (sI (sI μ3 17 10 (nI ((x + 1) % 256))) 19 x (nI 1)) 21 x (nI n)) 22 x t) 23 x (nI 0)) 24 x (nI 0)) := ((((((Fr.sI m17).trans (Fr.sI m19)).trans (Fr.sI m21)).trans (Fr.sI m22)).trans (Fr.sI m23)).trans (Fr.sI m24))
  refine ⟨13, m_make86 (s := s) (t := uco (uct (utg (usz (usta (unx s ((x + 1) % 256)) (up (sta s) x 1)) (up (sz s) x n)) (up (tg s) x t)) (up (ct s) x 0)) (up (co s) x 0)) hx 12 0 _ (by omega) ?_ (fun μ1 h1 hF v => hp μ1 ?_ ((hF3.trans hFa).trans hF))⟩
  · have ef : flK s x 0 = fl s := by
      funext y i
      exact if_neg (fun z => by omega)
    have el : lgK s x 0 = lg s := by
      funext y i
      exact if_neg (fun z => by omega)
    rw [ef, el]
    exact w6.ext (by simp only [eqS, q_cel_unx, q_sta_unx, q_ad_unx, q_sz_unx, q_tg_unx, q_ct_unx, q_co_unx, q_fl_unx, q_lg_unx, q_nx_unx, q_rt_unx, q_bf_unx, q_hf_unx, q_he_unx, q_hc_unx, q_ov_unx, q_oc_unx, q_cl_unx, q_lf_unx, q_row_unx, q_log_unx, q_tr_unx, q_ps_unx, q_mv_unx, q_wh_unx, q_cel_usta, q_sta_usta, q_ad_usta, q_sz_usta, q_tg_usta, q_ct_usta, q_co_usta, q_fl_usta, q_lg_usta, q_nx_usta, q_rt_usta, q_bf_usta, q_hf_usta, q_he_usta, q_hc_usta, q_ov_usta, q_oc_usta, q_cl_usta, q_lf_usta, q_row_usta, q_log_usta, q_tr_usta, q_ps_usta, q_mv_usta, q_wh_usta, q_cel_usz, q_sta_usz, q_ad_usz, q_sz_usz, q_tg_usz, q_ct_usz, q_co_usz, q_fl_usz, q_lg_usz, q_nx_usz, q_rt_usz, q_bf_usz, q_hf_usz, q_he_usz, q_hc_usz, q_ov_usz, q_oc_usz, q_cl_usz, q_lf_usz, q_row_usz, q_log_usz, q_tr_usz, q_ps_usz, q_mv_usz, q_wh_usz, q_cel_utg, q_sta_utg, q_ad_utg, q_sz_utg, q_tg_utg, q_ct_utg, q_co_utg, q_fl_utg, q_lg_utg, q_nx_utg, q_rt_utg, q_bf_utg, q_hf_utg, q_he_utg, q_hc_utg, q_ov_utg, q_oc_utg, q_cl_utg, q_lf_utg, q_row_utg, q_log_utg, q_tr_utg, q_ps_utg, q_mv_utg, q_wh_utg, q_cel_uct, q_sta_uct, q_ad_uct, q_sz_uct, q_tg_uct, q_ct_uct, q_co_uct, q_fl_uct, q_lg_uct, q_nx_uct, q_rt_uct, q_bf_uct, q_hf_uct, q_he_uct, q_hc_uct, q_ov_uct, q_oc_uct, q_cl_uct, q_lf_uct, q_row_uct, q_log_uct, q_tr_uct, q_ps_uct, q_mv_uct, q_wh_uct, q_cel_uco, q_sta_uco, q_ad_uco, q_sz_uco, q_tg_uco, q_ct_uco, q_co_uco, q_fl_uco, q_lg_uco, q_nx_uco, q_rt_uco, q_bf_uco, q_hf_uco, q_he_uco, q_hc_uco, q_ov_uco, q_oc_uco, q_cl_uco, q_lf_uco, q_row_uco, q_log_uco, q_tr_uco, q_ps_uco, q_mv_uco, q_wh_uco, q_cel_ufl, q_sta_ufl, q_ad_ufl, q_sz_ufl, q_tg_ufl, q_ct_ufl, q_co_ufl, q_fl_ufl, q_lg_ufl, q_nx_ufl, q_rt_ufl, q_bf_ufl, q_hf_ufl, q_he_ufl, q_hc_ufl, q_ov_ufl, q_oc_ufl, q_cl_ufl, q_lf_ufl, q_row_ufl, q_log_ufl, q_tr_ufl, q_ps_ufl, q_mv_ufl, q_wh_ufl, q_cel_ulg, q_sta_ulg, q_ad_ulg, q_sz_ulg, q_tg_ulg, q_ct_ulg, q_co_ulg, q_fl_ulg, q_lg_ulg, q_nx_ulg, q_rt_ulg, q_bf_ulg, q_hf_ulg, q_he_ulg, q_hc_ulg, q_ov_ulg, q_oc_ulg, q_cl_ulg, q_lf_ulg, q_row_ulg, q_log_ulg, q_tr_ulg, q_ps_ulg, q_mv_ulg, q_wh_ulg, and_self])
  · unfold nwM
    refine mr_lgext (f := lgK s x 12) ?_ (fun y i hi => ?_)
    · have h2 : MR μ1 (ufl (ulg (uco (uct (utg (usz (usta (unx s ((x + 1) % 256)) (up (sta s) x 1)) (up (sz s) x n)) (up (tg s) x t)) (up (ct s) x 0)) (up (co s) x 0)) (lgK s x 12)) (flK s x 12)) := h1.ext (by simp only [eqS, q_cel_ufl, q_sta_ufl, q_ad_ufl, q_sz_ufl, q_tg_ufl, q_ct_ufl, q_co_ufl, q_fl_ufl, q_lg_ufl, q_nx_ufl, q_rt_ufl, q_bf_ufl, q_hf_ufl, q_he_ufl, q_hc_ufl, q_ov_ufl, q_oc_ufl, q_cl_ufl, q_lf_ufl, q_row_ufl, q_log_ufl, q_tr_ufl, q_ps_ufl, q_mv_ufl, q_wh_ufl, q_cel_ulg, q_sta_ulg, q_ad_ulg, q_sz_ulg, q_tg_ulg, q_ct_ulg, q_co_ulg, q_fl_ulg, q_lg_ulg, q_nx_ulg, q_rt_ulg, q_bf_ulg, q_hf_ulg, q_he_ulg, q_hc_ulg, q_ov_ulg, q_oc_ulg, q_cl_ulg, q_lf_ulg, q_row_ulg, q_log_ulg, q_tr_ulg, q_ps_ulg, q_mv_ulg, q_wh_ulg, and_self])
      have h3 := mr_flext (f' := fun y i => if y = x then none else fl s y i) h2 (fun y i hi => ?_)
      · exact h3.ext (by simp only [eqS, q_cel_ufl, q_sta_ufl, q_ad_ufl, q_sz_ufl, q_tg_ufl, q_ct_ufl, q_co_ufl, q_fl_ufl, q_lg_ufl, q_nx_ufl, q_rt_ufl, q_bf_ufl, q_hf_ufl, q_he_ufl, q_hc_ufl, q_ov_ufl, q_oc_ufl, q_cl_ufl, q_lf_ufl, q_row_ufl, q_log_ufl, q_tr_ufl, q_ps_ufl, q_mv_ufl, q_wh_ufl, q_cel_ulg, q_sta_ulg, q_ad_ulg, q_sz_ulg, q_tg_ulg, q_ct_ulg, q_co_ulg, q_fl_ulg, q_lg_ulg, q_nx_ulg, q_rt_ulg, q_bf_ulg, q_hf_ulg, q_he_ulg, q_hc_ulg, q_ov_ulg, q_oc_ulg, q_cl_ulg, q_lf_ulg, q_row_ulg, q_log_ulg, q_tr_ulg, q_ps_ulg, q_mv_ulg, q_wh_ulg, and_self])
      · show (if y = x then none else fl s y i) = (if y = x ∧ i < 12 then none else fl s y i)
        by_cases q : y = x
        · rw [if_pos q, if_pos ⟨q, hi⟩]
        · rw [if_neg q, if_neg (fun z => q z.1)]
    · show (if y = x then 0 else lg s y i) = (if y = x ∧ i < 12 then 0 else lg s y i)
      by_cases q : y = x
      · rw [if_pos q, if_pos ⟨q, hi⟩]
      · rw [if_neg q, if_neg (fun z => q z.1)]
