/-! An object whose count is 0 goes: both sides -/
def vcol (s : St) (x k : Nat) : Nat → Nat := if co s x = 1 then grl s (hlds s x k) else co s
def van (s : St) (x : Nat) : St := los (uco (urow s (row s ++ hlds s x (sz s x))) (vcol s x (sz s x))) x
theorem vcol_1 {s : St} {x : Nat} (h : co s x = 1) (k : Nat) : vcol s x k = grl s (hlds s x k) := if_pos h
theorem vcol_n {s : St} {x : Nat} (h : ¬ co s x = 1) (k : Nat) : vcol s x k = co s := if_neg h
theorem vcol_self (s : St) (x k : Nat) : vcol s x k x = co s x := by
  by_cases h : co s x = 1
  · rw [vcol_1 h]
    unfold grl
    rw [if_neg (fun z => by have := z.2.2; omega)]
  · rw [vcol_n h]
theorem vcol_0 (s : St) (x : Nat) : vcol s x 0 = co s := by
  by_cases h : co s x = 1
  · rw [vcol_1 h, hlds_0, grl_nil]
  · rw [vcol_n h]
theorem vcol_none {s : St} {x k : Nat} (h : fl s x k = none) : vcol s x (k + 1) = vcol s x k := by
  unfold vcol
  rw [hlds_none h]
theorem m_vanish_loop {x : Nat} {s : St} (hx : x < 256) (hn : sz s x ≤ 12) (hb : Bd s) (hf : ∀ i y, i < sz s x → fl s x i = some y → y < 256) (hlen : (row s).length + sz s x ≤ 262) {K : Int32 → Mem → Prop} : ∀ (e k : Nat) (μ : Mem), k + e = sz s x → MR μ (uco (urow s (row s ++ hlds s x k)) (vcol s x k)) →
    (∀ μ1, MR μ1 (uco (urow s (row s ++ hlds s x (sz s x))) (vcol s x (sz s x))) → Fr moS μ μ1 → ∀ l, K l μ1) → wM_vanish_2 (nI x) K (e + 1) (nI k) μ := by
  obtain ⟨b1, -, b3, -⟩ := hb
  intro e
  induction e with
  | zero =>
    intro k μ hk hM h
    have : k = sz s x := by omega
    subst this
    have p2 : mI μ 21 x = nI (sz s x) := hM.psz x hx
    unfold wM_vanish_2
    rw [nI_clamp (by omega), p2, nI_leI (by omega) (by omega)]
    exact ⟨(nI_vp (by omega)).mpr hx, fun _ => h μ hM (Fr.refl μ) _, fun q => absurd (by omega) q⟩
  | succ e ih =>
    intro k μ hk hM h
    have p2 : mI μ 21 x = nI (sz s x) := hM.psz x hx
    have p3 : mI μ 25 (12 * x + k) = eo (fl s x k) := hM.pfl x k hx (by omega)
    have e12 : 12 * nI x + nI k = nI (12 * x + k) := by rw [li_12, nI_mul, nI_add]
    have hl := hlds_len s x k
    unfold wM_vanish_2
    rw [nI_clamp (by omega), p2, nI_leI (by omega) (by omega), e12, nI_clamp (by omega), nI_1, p3]
    refine ⟨(nI_vp (by omega)).mpr hx, fun q => absurd q (by omega), fun _ => ⟨(nI_vp (by omega)).mpr (by omega), ?_⟩⟩
    have colx : ∀ μ1 t, MR μ1 (uco t (vcol s x k)) → mI μ1 24 x = nI (co s x) := by
      intro μ1 t h1
      have := h1.pco x hx
      rw [q_co_uco, vcol_self] at this
      exact this
    cases hfk : fl s x k with
    | none =>
      have hM' : MR μ (uco (urow s (row s ++ hlds s x (k + 1))) (vcol s x (k + 1))) := by rw [hlds_none hfk, vcol_none hfk]; exact hM
      refine m_wait_none ⟨(nI_vp (by omega)).mpr hx, fun q => ?_, fun q => ?_⟩
      · exact m_isWhite_none ⟨fun _ => ih (k + 1) μ (by omega) hM' h, fun w => absurd rfl w⟩
      · exact ih (k + 1) μ (by omega) hM' h
    | some y =>
      have hy := hf k y (by omega) hfk
      have ey : eo (some y) = nI y := rfl
      rw [ey]
      refine m_wait hM (by omega) (by show (row s ++ hlds s x k).length < 700; rw [List.length_append]; omega) (fun μ1 h1 hF => ?_)
      have h1' : MR μ1 (uco (urow s (row s ++ hlds s x (k + 1))) (vcol s x k)) := by
        rw [hlds_some hfk, ← List.append_assoc]
        exact h1.ext (by simp only [eqS, q_cel_uco, q_sta_uco, q_ad_uco, q_sz_uco, q_tg_uco, q_ct_uco, q_co_uco, q_fl_uco, q_lg_uco, q_nx_uco, q_rt_uco, q_bf_uco, q_hf_uco, q_he_uco, q_hc_uco, q_ov_uco, q_oc_uco, q_cl_uco, q_lf_uco, q_row_uco, q_log_uco, q_tr_uco, q_ps_uco, q_mv_uco, q_wh_uco, q_cel_urow, q_sta_urow, q_ad_urow, q_sz_urow, q_tg_urow, q_ct_urow, q_co_urow, q_fl_urow, q_lg_urow, q_nx_urow, q_rt_urow, q_bf_urow, q_hf_urow, q_he_urow, q_hc_urow, q_ov_urow, q_oc_urow, q_cl_urow, q_lf_urow, q_row_urow, q_log_urow, q_tr_urow, q_ps_urow, q_mv_urow, q_wh_urow, and_self])
      refine ⟨(nI_vp (by omega)).mpr hx, fun q => ?_, fun q => ?_⟩
      · rw [colx μ1 _ h1', li_1, nI_eq (by have := b3 x; omega) (by omega)] at q
        rw [vcol_1 q] at h1'
        refine m_grey h1' hy rfl (b1 y) b3 (fun μ2 h2 hF2 => ?_)
        refine ih (k + 1) μ2 (by omega) ?_ (fun μ3 h3 hF3 l => h μ3 h3 ((hF.trans hF2).trans hF3) l)
        rw [vcol_1 q, hlds_some hfk]
        rw [hlds_some hfk] at h2
        exact h2
      · rw [colx μ1 _ h1', li_1, nI_eq (by have := b3 x; omega) (by omega)] at q
        rw [vcol_n q] at h1'
        refine ih (k + 1) μ1 (by omega) ?_ (fun μ3 h3 hF3 l => h μ3 h3 (hF.trans hF3) l)
        rw [vcol_n q]
        exact h1'
theorem m_vanish {x : Nat} {post : Mem → Prop} {μ : Mem} {s : St} (h : MR μ s) (hx : x < 256) (hn : sz s x ≤ 12) (hend : ad s x + sz s x ≤ 128) (hlf : ∀ l, lf s l ≤ 1) (hb : Bd s) (hf : ∀ i y, i < sz s x → fl s x i = some y → y < 256) (hlen : (row s).length + sz s x ≤ 262) (hp : ∀ μ1, MR μ1 (van s x) → Fr moS μ μ1 → post μ1) : wM_vanish (nI x) post μ := by
  unfold wM_vanish
  refine ⟨sz s x + 1, m_vanish_loop hx hn hb hf hlen (sz s x) 0 μ (by omega) ?_ (fun μ1 h1 hF l => ?_)⟩
  · rw [hlds_0, vcol_0]
    exact h.ext (by simp only [eqS, q_cel_uco, q_sta_uco, q_ad_uco, q_sz_uco, q_tg_uco, q_ct_uco, q_co_uco, q_fl_uco, q_lg_uco, q_nx_uco, q_rt_uco, q_bf_uco, q_hf_uco, q_he_uco, q_hc_uco, q_ov_uco, q_oc_uco, q_cl_uco, q_lf_uco, q_row_uco, q_log_uco, q_tr_uco, q_ps_uco, q_mv_uco, q_wh_uco, q_cel_urow, q_sta_urow, q_ad_urow, q_sz_urow, q_tg_urow, q_ct_urow, q_co_urow, q_fl_urow, q_lg_urow, q_nx_urow, q_rt_urow, q_bf_urow, q_hf_urow, q_he_urow, q_hc_urow, q_ov_urow, q_oc_urow, q_cl_urow, q_lf_urow, q_row_urow, q_log_urow, q_tr_urow, q_ps_urow, q_mv_urow, q_wh_urow, List.append_nil, and_self])
  · exact m_lose h1 hx hend hlf (fun μ2 h2 hF2 => hp μ2 h2 (hF.trans hF2))
theorem CR.ext {μ : Mem} {s t : St} {ι : Nat → Nat} {d : Int32} {P : Nat → Prop} (h : CR μ s ι d P) (e : eqS s t) : CR μ t ι d P := by
  obtain ⟨e0, e1, e2, e3, e4, e5, e6, e7, e8, e9, e10, e11, e12, e13, e14, e15, e16, e17, e18, e19, e20, e21, e22, e23, e24⟩ := e
  have g1 : pg t = pg s := by
    unfold pg
    rw [e0, e12, e13, e14, e15, e16, e17, e18]
  have g2 : obj t = obj s := by
    unfold obj
    rw [e0, e2]
  have g3 : ∀ x, itm μ t ι x = itm μ s ι x := by
    intro x
    unfold itm
    rw [e2, e3, e4, e5, e6, e7, e8]
  unfold CR
  rw [g1, g2, e10, e11, e19, e20, e21, e22, e23, e24]
  simp only [g3]
  exact h
theorem c_letGo_loop {x : Nat} {s : St} {ι : Nat → Nat} {d : Int32} {P : Nat → Prop} (hP : P x) (hb : Bd s) (hf : ∀ i y, i < sz s x → fl s x i = some y → P y ∧ (0 < ct s y ↔ sta s y = 2)) (hlen : (row s).length + sz s x ≤ 262) (hsz : sz s x ≤ 12) {K : Int32 → Mem → Prop} : ∀ (e k : Nat) (μ : Mem), k + e = sz s x → CR μ (uco (urow (los s x) (row s ++ hlds s x k)) (vcol s x k)) ι d P →
    (∀ μ1, CR μ1 (uco (urow (los s x) (row s ++ hlds s x (sz s x))) (vcol s x (sz s x))) ι d P → Fr clS μ μ1 → ∀ l, K l μ1) → wC_letGo_16 (ι x) (ι x + 1) (nI (sz s x)) K (e + 1) (nI k) μ := by
  obtain ⟨b1, b2, b3, -⟩ := hb
  intro e
  induction e with
  | zero =>
    intro k μ hk hM h
    have : k = sz s x := by omega
    subst this
    unfold wC_letGo_16
    rw [nI_leI (by omega) (by omega)]
    exact ⟨fun _ => h μ hM (Fr.refl μ) _, fun q => absurd (by omega) q⟩
  | succ e ih =>
    intro k μ hk hM h
    have hi := hM.it x hP
    have p1 : mL μ (ι x + 1) = sz s x := hi.l1
    have p3 : mR μ (ι x + 1) k = (fl s x k).map ι := hi.pfl k (show k < sz s x by omega)
    have hl := hlds_len s x k
    unfold wC_letGo_16
    rw [nI_leI (by omega) (by omega), nI_clamp (by omega), nI_1, p1, p3]
    refine ⟨fun q => absurd q (by omega), fun _ => ⟨hi.o1, (nI_vp (by omega)).mpr (by omega), ?_⟩⟩
    intro e6 he6
    cases hfk : fl s x k with
    | none =>
      rw [hfk] at he6
      subst he6
      have hM' : CR μ (uco (urow (los s x) (row s ++ hlds s x (k + 1))) (vcol s x (k + 1))) ι d P := by rw [hlds_none hfk, vcol_none hfk]; exact hM
      exact ⟨fun _ => ih (k + 1) μ (by omega) hM' h, fun y hy => (by cases hy)⟩
    | some y =>
      rw [hfk] at he6
      subst he6
      obtain ⟨hy, hag⟩ := hf k y (by omega) hfk
      refine ⟨fun q => (by cases q), fun y7 hy7 => ?_⟩
      have : ι y = y7 := Option.some.inj hy7
      subst this
      refine c_wait hM hy (by show (row s ++ hlds s x k).length < 262; rw [List.length_append]; omega) (fun μ1 h1 hF => ?_)
      have h1' : CR μ1 (uco (urow (los s x) (row s ++ hlds s x (k + 1))) (vcol s x k)) ι d P := by
        rw [hlds_some hfk, ← List.append_assoc]
        exact h1.ext (by simp only [eqS, q_cel_uco, q_sta_uco, q_ad_uco, q_sz_uco, q_tg_uco, q_ct_uco, q_co_uco, q_fl_uco, q_lg_uco, q_nx_uco, q_rt_uco, q_bf_uco, q_hf_uco, q_he_uco, q_hc_uco, q_ov_uco, q_oc_uco, q_cl_uco, q_lf_uco, q_row_uco, q_log_uco, q_tr_uco, q_ps_uco, q_mv_uco, q_wh_uco, q_cel_urow, q_sta_urow, q_ad_urow, q_sz_urow, q_tg_urow, q_ct_urow, q_co_urow, q_fl_urow, q_lg_urow, q_nx_urow, q_rt_urow, q_bf_urow, q_hf_urow, q_he_urow, q_hc_urow, q_ov_urow, q_oc_urow, q_cl_urow, q_lf_urow, q_row_urow, q_log_urow, q_tr_urow, q_ps_urow, q_mv_urow, q_wh_urow, and_self])
      have hi1 := h1'.it x hP
      have colx : mI μ1 (ι x) 6 = nI (co s x) := by
        have := hi1.pco
        rw [q_co_uco, vcol_self] at this
        exact this
      refine ⟨hi1.o, fun q => ?_, fun q => ?_⟩
      · rw [colx, li_1, nI_eq (by have := b3 x; omega) (by omega)] at q
        rw [vcol_1 q] at h1'
        refine ⟨(h1'.it y hy).o, c_grey h1' hy (b2 y) b3 hag (fun μ2 h2 hF2 => ?_)⟩
        refine ih (k + 1) μ2 (by omega) ?_ (fun μ3 h3 hF3 l => h μ3 h3 ((hF.trans hF2).trans hF3) l)
        rw [vcol_1 q, hlds_some hfk]
        rw [hlds_some hfk] at h2
        exact h2
      · rw [colx, li_1, nI_eq (by have := b3 x; omega) (by omega)] at q
        rw [vcol_n q] at h1'
        refine ih (k + 1) μ1 (by omega) ?_ (fun μ3 h3 hF3 l => h μ3 h3 (hF.trans hF3) l)
        rw [vcol_n q]
        exact h1'
theorem c_letGo {x : Nat} {post : Mem → Prop} {μ : Mem} {s : St} {ι : Nat → Nat} {d : Int32} {P : Nat → Prop} (h : CR μ s ι d P) (hP : P x) (ho : own s x) (hs : small s) (hb : Bd s) (hf : ∀ i y, i < sz s x → fl s x i = some y → P y ∧ (0 < ct s y ↔ sta s y = 2)) (hlen : (row s).length + sz s x ≤ 262) (hp : ∀ μ1, CR μ1 (van s x) ι d P → Fr clS μ μ1 → post μ1) : wC_letGo (ι x) post μ := by
  unfold wC_letGo
  refine c_remove h hP ho hs (fun μ1 h1 hF => ?_)
  have hi := h1.it x hP
  have p1 : mL μ1 (ι x + 1) = sz s x := hi.l1
  refine ⟨hi.o, hi.o1, sz s x + 1, ?_⟩
  rw [p1]
  refine c_letGo_loop (d := d) hP hb hf hlen ho.2.1 (sz s x) 0 μ1 (by omega) ?_ (fun μ2 h2 hF2 l => hp μ2 ?_ (hF.trans hF2))
  · rw [hlds_0, vcol_0]
    exact h1.ext (by simp only [eqS, los, q_cel_uco, q_sta_uco, q_ad_uco, q_sz_uco, q_tg_uco, q_ct_uco, q_co_uco, q_fl_uco, q_lg_uco, q_nx_uco, q_rt_uco, q_bf_uco, q_hf_uco, q_he_uco, q_hc_uco, q_ov_uco, q_oc_uco, q_cl_uco, q_lf_uco, q_row_uco, q_log_uco, q_tr_uco, q_ps_uco, q_mv_uco, q_wh_uco, q_cel_urow, q_sta_urow, q_ad_urow, q_sz_urow, q_tg_urow, q_ct_urow, q_co_urow, q_fl_urow, q_lg_urow, q_nx_urow, q_rt_urow, q_bf_urow, q_hf_urow, q_he_urow, q_hc_urow, q_ov_urow, q_oc_urow, q_cl_urow, q_lf_urow, q_row_urow, q_log_urow, q_tr_urow, q_ps_urow, q_mv_urow, q_wh_urow, q_cel_usta, q_sta_usta, q_ad_usta, q_sz_usta, q_tg_usta, q_ct_usta, q_co_usta, q_fl_usta, q_lg_usta, q_nx_usta, q_rt_usta, q_bf_usta, q_hf_usta, q_he_usta, q_hc_usta, q_ov_usta, q_oc_usta, q_cl_usta, q_lf_usta, q_row_usta, q_log_usta, q_tr_usta, q_ps_usta, q_mv_usta, q_wh_usta, q_cel_ucel, q_sta_ucel, q_ad_ucel, q_sz_ucel, q_tg_ucel, q_ct_ucel, q_co_ucel, q_fl_ucel, q_lg_ucel, q_nx_ucel, q_rt_ucel, q_bf_ucel, q_hf_ucel, q_he_ucel, q_hc_ucel, q_ov_ucel, q_oc_ucel, q_cl_ucel, q_lf_ucel, q_row_ucel, q_log_ucel, q_tr_ucel, q_ps_ucel, q_mv_ucel, q_wh_ucel, List.append_nil, and_self])
  · unfold van
    exact h2.ext (by simp only [eqS, los, q_cel_uco, q_sta_uco, q_ad_uco, q_sz_uco, q_tg_uco, q_ct_uco, q_co_uco, q_fl_uco, q_lg_uco, q_nx_uco, q_rt_uco, q_bf_uco, q_hf_uco, q_he_uco, q_hc_uco, q_ov_uco, q_oc_uco, q_cl_uco, q_lf_uco, q_row_uco, q_log_uco, q_tr_uco, q_ps_uco, q_mv_uco, q_wh_uco, q_cel_urow, q_sta_urow, q_ad_urow, q_sz_urow, q_tg_urow, q_ct_urow, q_co_urow, q_fl_urow, q_lg_urow, q_nx_urow, q_rt_urow, q_bf_urow, q_hf_urow, q_he_urow, q_hc_urow, q_ov_urow, q_oc_urow, q_cl_urow, q_lf_urow, q_row_urow, q_log_urow, q_tr_urow, q_ps_urow, q_mv_urow, q_wh_urow, q_cel_usta, q_sta_usta, q_ad_usta, q_sz_usta, q_tg_usta, q_ct_usta, q_co_usta, q_fl_usta, q_lg_usta, q_nx_usta, q_rt_usta, q_bf_usta, q_hf_usta, q_he_usta, q_hc_usta, q_ov_usta, q_oc_usta, q_cl_usta, q_lf_usta, q_row_usta, q_log_usta, q_tr_usta, q_ps_usta, q_mv_usta, q_wh_usta, q_cel_ucel, q_sta_ucel, q_ad_ucel, q_sz_ucel, q_tg_ucel, q_ct_ucel, q_co_ucel, q_fl_ucel, q_lg_ucel, q_nx_ucel, q_rt_ucel, q_bf_ucel, q_hf_ucel, q_he_ucel, q_hc_ucel, q_ov_ucel, q_oc_ucel, q_cl_ucel, q_lf_ucel, q_row_ucel, q_log_ucel, q_tr_ucel, q_ps_ucel, q_mv_ucel, q_wh_ucel, and_self])
