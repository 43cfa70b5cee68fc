/-! A young object lives on: both sides -/
def svA (s : St) (x : Nat) : St := uco (uct (usta s (up (sta s) x 2)) (up (ct s) x 1)) (up (co s) x (if tr s = 0 then 0 else 2))
noncomputable def sv (s : St) (x : Nat) : St := shf (svA s x) x
def fL (s : St) (x k : Nat) : List (Option Nat) := (List.range k).map (fl s x)
theorem fL_s (s : St) (x k : Nat) : fL s x (k + 1) = fL s x k ++ [fl s x k] := by
  unfold fL
  rw [List.range_succ, List.map_append]
  rfl
theorem fL_len (s : St) (x k : Nat) : (fL s x k).length = k := by
  unfold fL
  rw [List.length_map, List.length_range]
theorem wf_svA {s : St} (h : Wf s) {x : Nat} (hx : sta s x ≠ 0) : Wf (svA s x) := by
  refine h.ext rfl (fun y => ?_) rfl rfl rfl rfl
  show up (sta s) x 2 y ≠ 0 ↔ sta s y ≠ 0
  by_cases e : y = x
  · subst e; rw [up_self]; exact ⟨fun _ => hx, fun _ => by omega⟩
  · rw [up_ne e]
/-- moving touches places alone -/
theorem shf_same (s : St) (x : Nat) : sta (shf s x) = sta s ∧ sz (shf s x) = sz s ∧ tg (shf s x) = tg s ∧ ct (shf s x) = ct s ∧ co (shf s x) = co s ∧ fl (shf s x) = fl s ∧ lg (shf s x) = lg s ∧ nx (shf s x) = nx s ∧ rt (shf s x) = rt s ∧ bf (shf s x) = bf s ∧ row (shf s x) = row s ∧ log (shf s x) = log s ∧ tr (shf s x) = tr s ∧ ps (shf s x) = ps s ∧ wh (shf s x) = wh s ∧ cl (shf s x) = cl s := by
  have k : ∀ B : Gs, sta (spl s B) = sta s ∧ sz (spl s B) = sz s ∧ tg (spl s B) = tg s ∧ ct (spl s B) = ct s ∧ co (spl s B) = co s ∧ fl (spl s B) = fl s ∧ lg (spl s B) = lg s ∧ nx (spl s B) = nx s ∧ rt (spl s B) = rt s ∧ bf (spl s B) = bf s ∧ row (spl s B) = row s ∧ log (spl s B) = log s ∧ tr (spl s B) = tr s ∧ ps (spl s B) = ps s ∧ wh (spl s B) = wh s ∧ cl (spl s B) = cl s := by
    intro B
    unfold spl
    simp only [q_cel_uhf, q_sta_uhf, q_ad_uhf, q_sz_uhf, q_tg_uhf, q_ct_uhf, q_co_uhf, q_fl_uhf, q_lg_uhf, q_nx_uhf, q_rt_uhf, q_bf_uhf, q_hf_uhf, q_he_uhf, q_hc_uhf, q_ov_uhf, q_oc_uhf, q_cl_uhf, q_lf_uhf, q_row_uhf, q_log_uhf, q_tr_uhf, q_ps_uhf, q_mv_uhf, q_wh_uhf, q_cel_uhe, q_sta_uhe, q_ad_uhe, q_sz_uhe, q_tg_uhe, q_ct_uhe, q_co_uhe, q_fl_uhe, q_lg_uhe, q_nx_uhe, q_rt_uhe, q_bf_uhe, q_hf_uhe, q_he_uhe, q_hc_uhe, q_ov_uhe, q_oc_uhe, q_cl_uhe, q_lf_uhe, q_row_uhe, q_log_uhe, q_tr_uhe, q_ps_uhe, q_mv_uhe, q_wh_uhe, q_cel_uhc, q_sta_uhc, q_ad_uhc, q_sz_uhc, q_tg_uhc, q_ct_uhc, q_co_uhc, q_fl_uhc, q_lg_uhc, q_nx_uhc, q_rt_uhc, q_bf_uhc, q_hf_uhc, q_he_uhc, q_hc_uhc, q_ov_uhc, q_oc_uhc, q_cl_uhc, q_lf_uhc, q_row_uhc, q_log_uhc, q_tr_uhc, q_ps_uhc, q_mv_uhc, q_wh_uhc, q_cel_uov, q_sta_uov, q_ad_uov, q_sz_uov, q_tg_uov, q_ct_uov, q_co_uov, q_fl_uov, q_lg_uov, q_nx_uov, q_rt_uov, q_bf_uov, q_hf_uov, q_he_uov, q_hc_uov, q_ov_uov, q_oc_uov, q_cl_uov, q_lf_uov, q_row_uov, q_log_uov, q_tr_uov, q_ps_uov, q_mv_uov, q_wh_uov, q_cel_uoc, q_sta_uoc, q_ad_uoc, q_sz_uoc, q_tg_uoc, q_ct_uoc, q_co_uoc, q_fl_uoc, q_lg_uoc, q_nx_uoc, q_rt_uoc, q_bf_uoc, q_hf_uoc, q_he_uoc, q_hc_uoc, q_ov_uoc, q_oc_uoc, q_cl_uoc, q_lf_uoc, q_row_uoc, q_log_uoc, q_tr_uoc, q_ps_uoc, q_mv_uoc, q_wh_uoc, and_self]
  unfold shf
  rw [plc_2]
  generalize (plc s (sz s x)).1 = v
  generalize (placeG (pg s) (sz s x)).2 = B
  have kB := k B
  split
  · exact kB
  · unfold mvd lay mvo
    simp only [q_cel_umv, q_sta_umv, q_ad_umv, q_sz_umv, q_tg_umv, q_ct_umv, q_co_umv, q_fl_umv, q_lg_umv, q_nx_umv, q_rt_umv, q_bf_umv, q_hf_umv, q_he_umv, q_hc_umv, q_ov_umv, q_oc_umv, q_cl_umv, q_lf_umv, q_row_umv, q_log_umv, q_tr_umv, q_ps_umv, q_mv_umv, q_wh_umv, q_cel_uad, q_sta_uad, q_ad_uad, q_sz_uad, q_tg_uad, q_ct_uad, q_co_uad, q_fl_uad, q_lg_uad, q_nx_uad, q_rt_uad, q_bf_uad, q_hf_uad, q_he_uad, q_hc_uad, q_ov_uad, q_oc_uad, q_cl_uad, q_lf_uad, q_row_uad, q_log_uad, q_tr_uad, q_ps_uad, q_mv_uad, q_wh_uad, q_cel_ucel, q_sta_ucel, q_ad_ucel, q_sz_ucel, q_tg_ucel, q_ct_ucel, q_co_ucel, q_fl_ucel, q_lg_ucel, q_nx_ucel, q_rt_ucel, q_bf_ucel, q_hf_ucel, q_he_ucel, q_hc_ucel, q_ov_ucel, q_oc_ucel, q_cl_ucel, q_lf_ucel, q_row_ucel, q_log_ucel, q_tr_ucel, q_ps_ucel, q_mv_ucel, q_wh_ucel, q_cel_ulf, q_sta_ulf, q_ad_ulf, q_sz_ulf, q_tg_ulf, q_ct_ulf, q_co_ulf, q_fl_ulf, q_lg_ulf, q_nx_ulf, q_rt_ulf, q_bf_ulf, q_hf_ulf, q_he_ulf, q_hc_ulf, q_ov_ulf, q_oc_ulf, q_cl_ulf, q_lf_ulf, q_row_ulf, q_log_ulf, q_tr_ulf, q_ps_ulf, q_mv_ulf, q_wh_ulf]
    exact kB
theorem m_sv_loop {s t : St} {x : Nat} {L : List (Option Nat)} (hx : x < 256) (hn : sz s x ≤ 12) (ez : sz t = sz s) (ef : fl t = fl s) (hL : L.length + sz s x ≤ 262) {K : Int32 → Mem → Prop} : ∀ (e k : Nat) (μ : Mem), k + e = sz s x → MR μ t → slM μ t (L ++ fL s x k) → (∀ μ1, MR μ1 t → slM μ1 t (L ++ fL s x (sz s x)) → Fr moS μ μ1 → ∀ v, K v μ1) → wM_survive_39 (nI x) K (e + 1) (nI k) μ := by
  intro e
  induction e with
  | zero =>
    intro k μ hk hM hS h
    have : k = sz s x := by omega
    subst this
    unfold wM_survive_39
    rw [nI_clamp (by omega), hM.psz x hx, ez, nI_leI (by omega) (by omega)]
    exact ⟨(nI_vp (by omega)).mpr hx, fun _ => h μ hM hS (Fr.refl μ) _, fun q => absurd (Nat.le_refl _) q⟩
  | succ e ih =>
    intro k μ hk hM hS h
    have ec : (6 + 12 * nI x) + nI k = nI (6 + 12 * x + k) := by rw [li_6, li_12, nI_mul, nI_add, nI_add]
    unfold wM_survive_39
    rw [nI_clamp (by omega), hM.psz x hx, ez, nI_leI (by omega) (by omega), ec, nI_1]
    refine ⟨(nI_vp (by omega)).mpr hx, fun q => absurd q (by omega), fun _ => m_addSlot hM hS (v := fl s x k) (Or.inr ⟨x, k, hx, by omega, rfl, by rw [ef]⟩) ?_ (fun μ1 h1 hS1 hF => ?_)⟩
    · rw [List.length_append, fL_len]
      omega
    · rw [List.append_assoc, ← fL_s] at hS1
      exact ih (k + 1) μ1 (by omega) h1 hS1 (fun μ2 h2 hS2 hF2 v => h μ2 h2 hS2 (hF.trans hF2) v)
theorem slM.same {μ μ1 : Mem} {s t : St} {L : List (Option Nat)} (h : slM μ s L) (e1 : mI μ1 17 26 = mI μ 17 26) (e2 : mI μ1 33 = mI μ 33) (r : rt t = rt s) (f : fl t = fl s) : slM μ1 t L := by
  unfold slM cod
  rw [e1, e2, r, f]
  exact h
theorem c_sv_loop {s t : St} {x : Nat} {L : List (Option Nat)} {ι : Nat → Nat} {d : Int32} {P : Nat → Prop} (hx : P x) (hn : sz s x ≤ 12) (ez : sz t = sz s) (ef : fl t = fl s) (hf : ∀ i y, i < sz s x → fl s x i = some y → P y) (hL : L.length + sz s x ≤ 262) {K : Int32 → Mem → Prop} : ∀ (e k : Nat) (μ : Mem), k + e = sz s x → CR μ t ι d P → ringR μ ι 15 (L ++ fL s x k) → (∀ μ1, CR μ1 t ι d P → ringR μ1 ι 15 (L ++ fL s x (sz s x)) → Fr clS μ μ1 → ∀ v, K v μ1) → wC_addFieldsToSlots_11 (ι x + 1) (nI (sz s x)) K (e + 1) (nI k) μ := by
  intro e
  induction e with
  | zero =>
    intro k μ hk hM hS h
    have : k = sz s x := by omega
    subst this
    unfold wC_addFieldsToSlots_11
    rw [nI_leI (by omega) (by omega)]
    exact ⟨fun _ => h μ hM hS (Fr.refl μ) _, fun q => absurd (Nat.le_refl _) q⟩
  | succ e ih =>
    intro k μ hk hM hS h
    have hi := hM.it x hx
    have p1 : mL μ (ι x + 1) = sz s x := by rw [← ez]; exact hi.l1
    have p3 : mR μ (ι x + 1) k = (fl s x k).map ι := by rw [← ef]; exact hi.pfl k (by rw [ez]; omega)
    unfold wC_addFieldsToSlots_11
    rw [nI_leI (by omega) (by omega), nI_clamp (by omega), nI_1, p1, p3]
    refine ⟨fun q => absurd q (by omega), fun _ => ⟨hi.o1, (nI_vp (by omega)).mpr (by omega), ?_⟩⟩
    intro e5 he5
    subst he5
    refine c_addSlot hM hS ?_ (fun y hy => hf k y (by omega) hy) (fun μ1 h1 hS1 hF => ?_)
    · rw [List.length_append, fL_len]
      omega
    · rw [List.append_assoc, ← fL_s] at hS1
      exact ih (k + 1) μ1 (by omega) h1 hS1 (fun μ2 h2 hS2 hF2 v => h μ2 h2 hS2 (hF.trans hF2) v)
