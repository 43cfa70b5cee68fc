/-! Roots remembered; a trace begins; all white: both sides -/
def bfk (s : St) (k r : Nat) : Option Nat := if r < k then rt s r else bf s r
def rem (s : St) : St := ubf s (bfk s 6)
theorem bfk_s (s : St) (k : Nat) : up (bfk s k) k (rt s k) = bfk s (k + 1) := by
  funext l
  unfold up bfk
  by_cases e : l = k
  · rw [if_pos e, if_pos (by omega), e]
  · rw [if_neg e]
    by_cases w : l < k
    · rw [if_pos w, if_pos (by omega)]
    · rw [if_neg w, if_neg (by omega)]
theorem bfk_0 (s : St) : bfk s 0 = bf s := by
  funext l
  exact if_neg (by omega)
theorem m_rem_loop {s : St} {K : Int32 → Mem → Prop} : ∀ (e k : Nat) (μ : Mem), k + e = 6 → MR μ (ubf s (bfk s k)) → (∀ μ1, MR μ1 (rem s) → Fr moS μ μ1 → ∀ v, K v μ1) → wM_halt_119 K (e + 1) (nI k) μ := by
  have m28 : moS 28 := by unfold moS; omega
  intro e
  induction e with
  | zero =>
    intro k μ hk hM h
    have : k = 6 := by omega
    subst this
    unfold wM_halt_119
    rw [li_6, nI_leI (by omega) (by omega)]
    exact ⟨fun _ => h μ hM (Fr.refl μ) _, fun q => absurd (Nat.le_refl _) q⟩
  | succ e ih =>
    intro k μ hk hM h
    have p1 : mI μ 27 k = eo (rt s k) := hM.prt k (by omega)
    unfold wM_halt_119
    rw [li_6, nI_leI (by omega) (by omega), nI_clamp (by omega), nI_1, p1]
    refine ⟨fun q => absurd q (by omega), fun _ => ⟨(nI_vp (by omega)).mpr (by omega), ?_⟩⟩
    intro μ2 e2
    subst e2
    have h2 := hM.w_bf (x := k) (v := rt s k)
    rw [qq_ubf, q_bf_ubf, bfk_s] at h2
    exact ih (k + 1) _ (by omega) h2 (fun μ1 h1 hF v => h μ1 h1 ((Fr.sI m28).trans hF) v)
theorem CR.w_bf {μ : Mem} {s : St} {ι : Nat → Nat} {d : Int32} {P : Nat → Prop} (h : CR μ s ι d P) {r : Nat} {v : Option Nat} : CR (sR μ 2 r (v.map ι)) (ubf s (up (bf s) r v)) ι d P := by
  refine h.mk frR (fun x hx => ?_) (fun a ha => ?_) (fun q hq => ?_) (fun q hq => ?_) (h.pl.frame (fun _ _ => rfl)) (h.wt.frame rfl (mR_ne (by decide))) (h.plo.frame rfl (mR_ne (by decide)) rfl (mR_ne (by decide))) h.ptr h.pps h.pmv h.pwh
  · have hi := h.it x hx
    have h35 := hi.i35
    exact hi.frame frR rfl (mR_ne (by omega)) rfl rfl rfl rfl rfl rfl rfl rfl
  · rw [mR_ne (by decide)]; exact h.pat a ha
  · rw [mR_ne (by decide)]; exact h.prt q hq
  · show _ = (up (bf s) r v q).map ι
    rw [mR_sR]
    by_cases e : q = r
    · subst e; rw [if_pos ⟨rfl, rfl⟩, up_self]
    · rw [if_neg (fun z => e z.2), up_ne e]; exact h.pbf q hq
theorem CR.w_rt {μ : Mem} {s : St} {ι : Nat → Nat} {d : Int32} {P : Nat → Prop} (h : CR μ s ι d P) {r : Nat} {v : Option Nat} : CR (sR μ 1 r (v.map ι)) (urt s (up (rt s) r v)) ι d P := by
  refine h.mk frR (fun x hx => ?_) (fun a ha => ?_) (fun q hq => ?_) (fun q hq => ?_) (h.pl.frame (fun _ _ => rfl)) (h.wt.frame rfl (mR_ne (by decide))) (h.plo.frame rfl (mR_ne (by decide)) rfl (mR_ne (by decide))) h.ptr h.pps h.pmv h.pwh
  · have hi := h.it x hx
    have h35 := hi.i35
    exact hi.frame frR rfl (mR_ne (by omega)) rfl rfl rfl rfl rfl rfl rfl rfl
  · rw [mR_ne (by decide)]; exact h.pat a ha
  · show _ = (up (rt s) r v q).map ι
    rw [mR_sR]
    by_cases e : q = r
    · subst e; rw [if_pos ⟨rfl, rfl⟩, up_self]
    · rw [if_neg (fun z => e z.2), up_ne e]; exact h.prt q hq
  · rw [mR_ne (by decide)]; exact h.pbf q hq
theorem c_rem_loop {s : St} {ι : Nat → Nat} {d : Int32} {P : Nat → Prop} (hr : ∀ r x, r < 6 → rt s r = some x → P x) {K : Int32 → Mem → Prop} : ∀ (e k : Nat) (μ : Mem), k + e = 6 → CR μ (ubf s (bfk s k)) ι d P → (∀ μ1, CR μ1 (rem s) ι d P → Fr clS μ μ1 → ∀ v, K v μ1) → wC_rememberRoots_2 K (e + 1) (nI k) μ := by
  intro e
  induction e with
  | zero =>
    intro k μ hk hM h
    have : k = 6 := by omega
    subst this
    unfold wC_rememberRoots_2
    rw [li_6, nI_leI (by omega) (by omega)]
    exact ⟨fun _ => h μ hM (Fr.refl μ) _, fun q => absurd (Nat.le_refl _) q⟩
  | succ e ih =>
    intro k μ hk hM h
    have p1 : mR μ 1 k = (rt s k).map ι := hM.prt k (by omega)
    unfold wC_rememberRoots_2
    rw [li_6, nI_leI (by omega) (by omega), nI_clamp (by omega), nI_1, p1]
    refine ⟨fun q => absurd q (by omega), fun _ => ⟨(nI_vp (by omega)).mpr (by omega), ?_⟩⟩
    intro e2 he2
    subst he2
    refine ⟨fun y hy => ?_, ?_⟩
    · cases hv : rt s k with
      | none => rw [hv] at hy; cases hy
      | some x =>
        rw [hv] at hy
        have : ι x = y := Option.some.inj hy
        subst this
        exact (hM.it x (hr k x (by omega) hv)).o
    · intro μ3 e3
      subst e3
      have h2 := hM.w_bf (r := k) (v := rt s k)
      rw [qq_ubf, q_bf_ubf, bfk_s] at h2
      exact ih (k + 1) _ (by omega) h2 (fun μ1 h1 hF v => h μ1 h1 ((Fr.sR (by unfold clS; omega)).trans hF) v)
theorem c_rem {post : Mem → Prop} {μ : Mem} {s : St} {ι : Nat → Nat} {d : Int32} {P : Nat → Prop} (h : CR μ s ι d P) (hr : ∀ r x, r < 6 → rt s r = some x → P x) (hp : ∀ μ1, CR μ1 (rem s) ι d P → Fr clS μ μ1 → post μ1) : wC_rememberRoots post μ := by
  unfold wC_rememberRoots
  refine ⟨7, c_rem_loop hr 6 0 μ (by omega) ?_ (fun μ1 h1 hF v => hp μ1 h1 hF)⟩
  rw [bfk_0]
  exact h.ext (by simp only [eqS, q_cel_ubf, q_sta_ubf, q_ad_ubf, q_sz_ubf, q_tg_ubf, q_ct_ubf, q_co_ubf, q_fl_ubf, q_lg_ubf, q_nx_ubf, q_rt_ubf, q_bf_ubf, q_hf_ubf, q_he_ubf, q_hc_ubf, q_ov_ubf, q_oc_ubf, q_cl_ubf, q_lf_ubf, q_row_ubf, q_log_ubf, q_tr_ubf, q_ps_ubf, q_mv_ubf, q_wh_ubf, and_self])
/-- the roots, as a list -/
def rts (s : St) (k : Nat) : List Nat := (List.range k).filterMap (rt s)
theorem rts_s (s : St) (k : Nat) : rts s (k + 1) = rts s k ++ (rt s k).toList := by
  unfold rts
  rw [List.range_succ, List.filterMap_append]
  congr 1
theorem rts_none {s : St} {k : Nat} (h : rt s k = none) : rts s (k + 1) = rts s k := by
  rw [rts_s, h]
  simp
theorem rts_some {s : St} {k y : Nat} (h : rt s k = some y) : rts s (k + 1) = rts s k ++ [y] := by
  rw [rts_s, h]
  simp
theorem rts_mem {s : St} {k y : Nat} : y ∈ rts s k ↔ ∃ r, r < k ∧ rt s r = some y := by
  unfold rts
  rw [List.mem_filterMap]
  simp only [List.mem_range]
def bgn (s : St) : St := uco (utr s 1) (grl s (rts s 6))
theorem c_bgn_loop {s : St} {ι : Nat → Nat} {d : Int32} (hb : Bd s) (ha : Ag s) (hr : ∀ r x, r < 6 → rt s r = some x → sta s x ≠ 0) {K : Int32 → Mem → Prop} : ∀ (e k : Nat) (μ : Mem), k + e = 6 → CR μ (uco (utr s 1) (grl s (rts s k))) ι d (lv s) → (∀ μ1, CR μ1 (bgn s) ι d (lv s) → Fr clS μ μ1 → ∀ v, K v μ1) → wC_beginTrace_15 6 K (e + 1) (nI k) μ := by
  intro e
  induction e with
  | zero =>
    intro k μ hk hM h
    have : k = 6 := by omega
    subst this
    unfold wC_beginTrace_15
    rw [li_6, nI_leI (by omega) (by omega)]
    exact ⟨fun _ => h μ hM (Fr.refl μ) _, fun q => absurd (Nat.le_refl _) q⟩
  | succ e ih =>
    intro k μ hk hM h
    have p1 : mR μ 1 k = (rt s k).map ι := hM.prt k (by omega)
    unfold wC_beginTrace_15
    rw [li_6, nI_leI (by omega) (by omega), nI_clamp (by omega), nI_1, p1]
    refine ⟨fun q => absurd q (by omega), fun _ => ⟨(nI_vp (by omega)).mpr (by omega), ?_⟩⟩
    intro e2 he2
    cases hv : rt s k with
    | none =>
      rw [hv] at he2
      subst he2
      rw [← rts_none hv] at hM
      exact ⟨fun _ => ih (k + 1) μ (by omega) hM h, fun y hy => (by cases hy)⟩
    | some x =>
      rw [hv] at he2
      subst he2
      have hx := hr k x (by omega) hv
      refine ⟨fun q => (by cases q), fun y hy => ?_⟩
      have : ι x = y := Option.some.inj hy
      subst this
      refine ⟨(hM.it x hx).o, c_grey hM hx (hb.2.1 x) hb.2.2.1 (ha.iff hx) (fun μ1 h1 hF => ?_)⟩
      rw [← rts_some hv] at h1
      exact ih (k + 1) μ1 (by omega) h1 (fun μ2 h2 hF2 v => h μ2 h2 (hF.trans hF2) v)
theorem c_bgn {post : Mem → Prop} {μ : Mem} {s : St} {ι : Nat → Nat} {d : Int32} (h : CR μ s ι d (lv s)) (hb : Bd s) (ha : Ag s) (hr : ∀ r x, r < 6 → rt s r = some x → sta s x ≠ 0) (hp : ∀ μ1, CR μ1 (bgn s) ι d (lv s) → Fr clS μ μ1 → post μ1) : wC_beginTrace post μ := by
  unfold wC_beginTrace
  intro μ1 e1
  subst e1
  have h1 : CR (sI μ 0 7 1) (utr s 1) ι d (lv s) := h.w_tr (v := 1)
  refine ⟨7, c_bgn_loop (d := d) hb ha hr 6 0 _ (by omega) ?_ (fun μ1 h1 hF v => hp μ1 h1 ((Fr.sI (by unfold clS; omega)).trans hF))⟩
  have e0 : rts s 0 = [] := rfl
  rw [e0, grl_nil]
  exact h1.ext (by simp only [eqS, q_cel_uco, q_sta_uco, q_ad_uco, q_sz_uco, q_tg_uco, q_ct_uco, q_co_uco, q_fl_uco, q_lg_uco, q_nx_uco, q_rt_uco, q_bf_uco, q_hf_uco, q_he_uco, q_hc_uco, q_ov_uco, q_oc_uco, q_cl_uco, q_lf_uco, q_row_uco, q_log_uco, q_tr_uco, q_ps_uco, q_mv_uco, q_wh_uco, q_cel_utr, q_sta_utr, q_ad_utr, q_sz_utr, q_tg_utr, q_ct_utr, q_co_utr, q_fl_utr, q_lg_utr, q_nx_utr, q_rt_utr, q_bf_utr, q_hf_utr, q_he_utr, q_hc_utr, q_ov_utr, q_oc_utr, q_cl_utr, q_lf_utr, q_row_utr, q_log_utr, q_tr_utr, q_ps_utr, q_mv_utr, q_wh_utr, and_self])
theorem m_bgn_loop {s : St} (hw : ∀ r x, r < 6 → rt s r = some x → x < 256 ∧ sta s x = 2 ∧ co s x = 0) {K : Int32 → Mem → Prop} : ∀ (e k : Nat) (μ : Mem), k + e = 6 → MR μ (uco (utr s 1) (grl s (rts s k))) → (∀ μ1, MR μ1 (bgn s) → Fr moS μ μ1 → ∀ v, K v μ1) → wM_halt_70 K (e + 1) (nI k) μ := by
  have m24 : moS 24 := by unfold moS; omega
  intro e
  induction e with
  | zero =>
    intro k μ hk hM h
    have : k = 6 := by omega
    subst this
    unfold wM_halt_70
    rw [li_6, nI_leI (by omega) (by omega)]
    exact ⟨fun _ => h μ hM (Fr.refl μ) _, fun q => absurd (Nat.le_refl _) q⟩
  | succ e ih =>
    intro k μ hk hM h
    have p1 : mI μ 27 k = eo (rt s k) := hM.prt k (by omega)
    unfold wM_halt_70
    rw [li_6, nI_leI (by omega) (by omega), nI_clamp (by omega), nI_1, p1]
    refine ⟨fun q => absurd q (by omega), fun _ => ⟨(nI_vp (by omega)).mpr (by omega), ?_⟩⟩
    cases hv : rt s k with
    | none =>
      rw [← rts_none hv] at hM
      exact ⟨fun _ => ih (k + 1) μ (by omega) hM h, fun q => absurd m1_neg q⟩
    | some x =>
      obtain ⟨hx, hs, hc⟩ := hw k x (by omega) hv
      have ey : eo (some x) = nI x := rfl
      rw [ey, nI_clamp (by omega)]
      refine ⟨fun q => absurd q (nI_pos (by omega)), fun _ => ⟨(nI_vp (by omega)).mpr hx, ?_⟩⟩
      intro μ17 e17
      subst e17
      have h2 : MR (sI μ 24 x 1) _ := hM.w_co (x := x) (v := 1)
      rw [q_co_uco, qq_uco] at h2
      have e3 : up (grl s (rts s k)) x 1 = grl s (rts s (k + 1)) := by
        rw [rts_some hv]
        by_cases w : grl s (rts s k) x = 0
        · exact (grl_hit ⟨hs, w⟩).symm
        · rw [grl_miss (fun z => w z.2)]
          funext y
          by_cases e : y = x
          · subst e
            rw [up_self]
            unfold grl at w ⊢
            split
            · rfl
            · rename_i q
              rw [if_neg q] at w
              exact absurd hc w
          · exact up_ne e
      rw [e3] at h2
      exact ih (k + 1) _ (by omega) h2 (fun μ1 h1 hF v => h μ1 h1 ((Fr.sI m24).trans hF) v)
