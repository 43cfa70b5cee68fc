/-! A step of the trace: both sides -/
def gry (s : St) (a : Nat) : Prop := ∃ x, obj s a = some x ∧ sta s x = 2 ∧ co s x = 1
def blt (s : St) (x : Nat) : St := uco s (up (co s) x 2)
def blk (s : St) (x : Nat) : St := uco (blt s x) (grl (blt s x) (hlds s x (sz s x)))
/-- the state after a step, where there is a grey object -/
noncomputable def st1 (s : St) : St := match lst (gry s) 128 0 with
  | none => s
  | some a => match obj s a with
    | none => s
    | some x => blk s x
/-- what a step needs -/
def gdS (s : St) : Prop := Wf s ∧ Bd s ∧ Ag s ∧ ∀ x i y, sta s x ≠ 0 → i < sz s x → fl s x i = some y → sta s y ≠ 0
theorem blt_co (s : St) (x : Nat) : co (blt s x) = up (co s) x 2 := rfl
theorem blt_le {s : St} (hb : Bd s) (x : Nat) : ∀ y, co (blt s x) y ≤ 2 := by
  intro y
  rw [blt_co]
  by_cases e : y = x
  · subst e; rw [up_self]; omega
  · rw [up_ne e]; exact hb.2.2.1 y
theorem Ag.iff {s : St} (ha : Ag s) {y : Nat} (hy : sta s y ≠ 0) : 0 < ct s y ↔ sta s y = 2 := by
  rcases ha y hy with ⟨q1, q2, q3⟩ | ⟨q1, q2⟩ <;> omega
theorem c_blacken_loop {x : Nat} {s : St} {ι : Nat → Nat} {d : Int32} (hx : sta s x ≠ 0) (hg : gdS s) {K : Int32 → Mem → Prop} : ∀ (e k : Nat) (μ : Mem), k + e = sz s x → CR μ (uco (blt s x) (grl (blt s x) (hlds s x k))) ι d (lv s) → (∀ μ1, CR μ1 (blk s x) ι d (lv s) → Fr clS μ μ1 → ∀ v, K v μ1) → wC_blacken_15 (ι x + 1) (nI (sz s x)) K (e + 1) (nI k) μ := by
  obtain ⟨hw, hb, ha, hf⟩ := hg
  have hsz := hw.sz12 hx
  intro e
  induction e with
  | zero =>
    intro k μ hk hM h
    have : k = sz s x := by omega
    subst this
    unfold wC_blacken_15
    rw [nI_leI (by omega) (by omega)]
    exact ⟨fun _ => h μ hM (Fr.refl μ) _, fun q => absurd (by omega) q⟩
  | succ e ih =>
    intro k μ hk hM h
    have hi := hM.it x hx
    have p1 : mL μ (ι x + 1) = sz s x := hi.l1
    have p3 : mR μ (ι x + 1) k = (fl s x k).map ι := hi.pfl k (show k < sz s x by omega)
    unfold wC_blacken_15
    rw [nI_leI (by omega) (by omega), nI_clamp (by omega), nI_1, p1, p3]
    refine ⟨fun q => absurd q (by omega), fun _ => ⟨hi.o1, (nI_vp (by omega)).mpr (by omega), ?_⟩⟩
    intro e6 he6
    cases hfk : fl s x k with
    | none =>
      rw [hfk] at he6
      subst he6
      rw [← hlds_none hfk] at hM
      exact ⟨fun _ => ih (k + 1) μ (by omega) hM h, fun y hy => (by cases hy)⟩
    | some y =>
      rw [hfk] at he6
      subst he6
      have hy := hf x k y hx (by omega) hfk
      refine ⟨fun q => (by cases q), fun y7 hy7 => ?_⟩
      have : ι y = y7 := Option.some.inj hy7
      subst this
      refine ⟨(hM.it y hy).o, c_grey hM hy (hb.2.1 y) (blt_le hb x) (ha.iff hy) (fun μ1 h1 hF => ?_)⟩
      rw [← hlds_some hfk] at h1
      exact ih (k + 1) μ1 (by omega) h1 (fun μ2 h2 hF2 v => h μ2 h2 (hF.trans hF2) v)
theorem c_blacken {x : Nat} {post : Mem → Prop} {μ : Mem} {s : St} {ι : Nat → Nat} {d : Int32} (h : CR μ s ι d (lv s)) (hx : sta s x ≠ 0) (hg : gdS s) (hp : ∀ μ1, CR μ1 (blk s x) ι d (lv s) → Fr clS μ μ1 → post μ1) : wC_blacken (ι x) post μ := by
  have hi := h.it x hx
  have h35 := hi.i35
  have p1 : mL (sI μ (ι x) 6 2) (ι x + 1) = sz s x := hi.l1
  have h2 : CR (sI μ (ι x) 6 2) (blt s x) ι d (lv s) := h.w_co (v := 2) hx
  unfold wC_blacken
  refine ⟨hi.o, ?_⟩
  intro μ2 e2
  subst e2
  refine ⟨hi.o1, sz s x + 1, ?_⟩
  rw [p1]
  refine c_blacken_loop (d := d) hx hg (sz s x) 0 _ (by omega) ?_ (fun μ1 h1 hF v => hp μ1 h1 ((Fr.sI (by unfold clS; omega)).trans hF))
  rw [hlds_0, grl_nil]
  exact h2.ext (by simp only [eqS, q_cel_uco, q_sta_uco, q_ad_uco, q_sz_uco, q_tg_uco, q_ct_uco, q_co_uco, q_fl_uco, q_lg_uco, q_nx_uco, q_rt_uco, q_bf_uco, q_hf_uco, q_he_uco, q_hc_uco, q_ov_uco, q_oc_uco, q_cl_uco, q_lf_uco, q_row_uco, q_log_uco, q_tr_uco, q_ps_uco, q_mv_uco, q_wh_uco, and_self])
theorem c_first_loop {s : St} {ι : Nat → Nat} {d : Int32} {μ : Mem} (h : CR μ s ι d (lv s)) (hg : gdS s) {K post : Int32 → Mem → Prop} : ∀ (e k : Nat), k + e = 128 → (∀ a x, lst (gry s) e k = some a → obj s a = some x → ∀ μ1, CR μ1 (blk s x) ι d (lv s) → Fr clS μ μ1 → post 1 μ1) → (lst (gry s) e k = none → ∀ v, K v μ) → wC_blackenFirstGrey_10 128 K post (e + 1) (nI k) μ := by
  have hw := hg.1
  have hb := hg.2.1
  have ha := hg.2.2.1
  intro e
  induction e with
  | zero =>
    intro k hk h1 h0
    have : k = 128 := by omega
    subst this
    unfold wC_blackenFirstGrey_10
    rw [li_128, nI_leI (by omega) (by omega)]
    exact ⟨fun _ => h0 rfl _, fun q => absurd (Nat.le_refl _) q⟩
  | succ e ih =>
    intro k hk h1 h0
    have next : ¬ gry s k → wC_blackenFirstGrey_10 (nI 128) K post (e + 1) (nI (k + 1)) μ := by
      intro hn
      rw [lst_miss hn] at h1 h0
      exact ih (k + 1) (by omega) h1 h0
    unfold wC_blackenFirstGrey_10
    rw [li_128, nI_leI (by omega) (by omega), nI_clamp (by omega), h.pat k (by omega), nI_1]
    refine ⟨fun q => absurd q (by omega), fun _ => ⟨(nI_vp (by omega)).mpr (by omega), ?_⟩⟩
    intro e2 he2
    cases ho : obj s k with
    | none =>
      rw [ho] at he2
      subst he2
      refine ⟨fun _ => next ?_, fun y hy => (by cases hy)⟩
      rintro ⟨x, hx, -⟩
      rw [ho] at hx
      cases hx
    | some x =>
      rw [ho] at he2
      subst he2
      refine ⟨fun q => (by cases q), fun y hy => ?_⟩
      have : ι x = y := Option.some.inj hy
      subst this
      have hx := (obj_live hw ho).1
      have hi := h.it x hx
      have b3 := hb.2.2.1 x
      rw [hi.pco, li_1, nI_eq (by omega) (by omega)]
      refine ⟨hi.o, fun q => ?_, fun q => next ?_⟩
      · have hs2 : sta s x = 2 := by
          rcases ha x hx with ⟨q1, q2, q3⟩ | ⟨q1, q2⟩
          · omega
          · exact q1
        exact c_blacken h hx hg (h1 k x (lst_hit ⟨x, ho, hs2, q⟩) ho)
      · rintro ⟨y, hy, -, hc⟩
        rw [ho] at hy
        have := Option.some.inj hy
        subst this
        exact q hc
theorem st1_some {s : St} {a x : Nat} (h : lst (gry s) 128 0 = some a) (ho : obj s a = some x) : st1 s = blk s x := by
  unfold st1
  rw [h]
  show (match obj s a with | none => s | some x => blk s x) = _
  rw [ho]
theorem st1_none {s : St} (h : lst (gry s) 128 0 = none) : st1 s = s := by
  unfold st1
  rw [h]
theorem c_first {s : St} {ι : Nat → Nat} {d : Int32} {μ : Mem} {post : Int32 → Mem → Prop} (h : CR μ s ι d (lv s)) (hg : gdS s) (h1 : lst (gry s) 128 0 ≠ none → ∀ μ1, CR μ1 (st1 s) ι d (lv (st1 s)) → Fr clS μ μ1 → post 1 μ1) (h0 : lst (gry s) 128 0 = none → post 0 μ) : wC_blackenFirstGrey post μ := by
  unfold wC_blackenFirstGrey
  refine ⟨129, c_first_loop h hg 128 0 (by omega) (fun a x ha ho μ1 hc hF => ?_) (fun hn v => h0 hn)⟩
  have e := st1_some ha ho
  refine h1 (by rw [ha]; simp) μ1 ?_ hF
  rw [e]
  exact hc
theorem m_step_loop {x : Nat} {s : St} (hx : sta s x ≠ 0) (hg : gdS s) {K : Int32 → Mem → Prop} : ∀ (e k : Nat) (μ : Mem), k + e = sz s x → MR μ (uco (blt s x) (grl (blt s x) (hlds s x k))) → (∀ μ1, MR μ1 (blk s x) → Fr moS μ μ1 → ∀ v, K v μ1) → wM_step_59 (nI x) K (e + 1) (nI k) μ := by
  obtain ⟨hw, hb, ha, hf⟩ := hg
  have hsz := hw.sz12 hx
  have hlt := hw.lt hx
  intro e
  induction e with
  | zero =>
    intro k μ hk hM h
    have : k = sz s x := by omega
    subst this
    have p2 : mI μ 21 x = nI (sz s x) := hM.psz x hlt
    unfold wM_step_59
    rw [nI_clamp (by omega), p2, nI_leI (by omega) (by omega)]
    exact ⟨(nI_vp (by omega)).mpr hlt, fun _ => h μ hM (Fr.refl μ) _, fun q => absurd (by omega) q⟩
  | succ e ih =>
    intro k μ hk hM h
    have p2 : mI μ 21 x = nI (sz s x) := hM.psz x hlt
    have p3 : mI μ 25 (12 * x + k) = eo (fl s x k) := hM.pfl x k hlt (by omega)
    have e12 : 12 * nI x + nI k = nI (12 * x + k) := by rw [li_12, nI_mul, nI_add]
    unfold wM_step_59
    rw [nI_clamp (by omega), p2, nI_leI (by omega) (by omega), e12, nI_clamp (by omega), nI_1, p3]
    refine ⟨(nI_vp (by omega)).mpr hlt, fun q => absurd q (by omega), fun _ => ⟨(nI_vp (by omega)).mpr (by omega), ?_⟩⟩
    cases hfk : fl s x k with
    | none =>
      rw [← hlds_none hfk] at hM
      exact m_isWhite_none ⟨fun _ => ih (k + 1) μ (by omega) hM h, fun w => absurd rfl w⟩
    | some y =>
      have hy := hf x k y hx (by omega) hfk
      refine m_grey hM (hw.lt hy) rfl (hb.1 y) (blt_le hb x) (fun μ1 h1 hF => ?_)
      rw [← hlds_some hfk] at h1
      exact ih (k + 1) μ1 (by omega) h1 (fun μ2 h2 hF2 v => h μ2 h2 (hF.trans hF2) v)
theorem m_find_loop {s : St} {μ : Mem} (h : MR μ s) (hg : gdS s) {K : Int32 → Mem → Prop} : ∀ (e k a : Nat), k + e = 128 → lst (gry s) e k = some a → K (nI a) μ → wM_step_2 K (e + 1) (nI k) μ := by
  have hw := hg.1
  have hb := hg.2.1
  intro e
  induction e with
  | zero =>
    intro k a hk hl _
    cases hl
  | succ e ih =>
    intro k a hk hl hp
    have next : ¬ gry s k → wM_step_2 K (e + 1) (nI (k + 1)) μ := by
      intro hn
      rw [lst_miss hn] at hl
      exact ih (k + 1) a (by omega) hl hp
    unfold wM_step_2
    rw [nI_1]
    refine m_objectAt h hw (by omega) (fun hlt => ?_) (fun q => by omega)
    cases ho : obj s k with
    | none =>
      refine ⟨fun _ => next ?_, fun q => absurd m1_neg q⟩
      rintro ⟨x, hx, -⟩
      rw [ho] at hx
      cases hx
    | some x =>
      have hx := (obj_live hw ho).1
      have hx2 := hw.lt hx
      have b1 := hb.1 x
      have b3 := hb.2.2.1 x
      have ey : eo (some x) = nI x := rfl
      rw [ey]
      refine ⟨fun q => absurd q (nI_pos (by omega)), fun _ => ?_⟩
      refine m_objectAt h hw (by omega) (fun _ => ?_) (fun q => by omega)
      rw [ho, ey, nI_clamp (by omega), h.psta x hx2, li_2, nI_eq (by omega) (by omega)]
      refine ⟨(nI_vp (by omega)).mpr hx2, fun q => ?_, fun q => next ?_⟩
      · refine m_objectAt h hw (by omega) (fun _ => ?_) (fun q => by omega)
        rw [ho, ey, nI_clamp (by omega), h.pco x hx2, li_1, nI_eq (by omega) (by omega)]
        refine ⟨(nI_vp (by omega)).mpr hx2, fun w => ?_, fun w => next ?_⟩
        · rw [lst_hit ⟨x, ho, q, w⟩] at hl
          rw [Option.some.inj hl]
          exact hp
        · rintro ⟨y, hy, -, hc⟩
          rw [ho] at hy
          have := Option.some.inj hy
          subst this
          exact w hc
      · rintro ⟨y, hy, hc, -⟩
        rw [ho] at hy
        have := Option.some.inj hy
        subst this
        exact q hc
theorem m_step {s : St} {μ : Mem} {post : Mem → Prop} (h : MR μ s) (hg : gdS s) (hn : lst (gry s) 128 0 ≠ none) (hp : ∀ μ1, MR μ1 (st1 s) → Fr moS μ μ1 → post μ1) : wM_step post μ := by
  have m24 : moS 24 := by unfold moS; omega
  cases hl : lst (gry s) 128 0 with
  | none => exact absurd hl hn
  | some a =>
    obtain ⟨⟨x, ho, hs, hc⟩, -, ha⟩ := lst_some hl
    have hx : sta s x ≠ 0 := by omega
    have hlt := hg.1.lt hx
    rw [st1_some hl ho] at hp
    unfold wM_step
    refine ⟨129, m_find_loop h hg 128 0 a (by omega) hl ?_⟩
    refine m_objectAt h hg.1 (by omega) (fun _ => ?_) (fun q => by omega)
    have ey : eo (some x) = nI x := rfl
    rw [ho, ey, nI_clamp (by omega)]
    refine ⟨(nI_vp (by omega)).mpr hlt, ?_⟩
    intro μ14 e14
    subst e14
    have h2 : MR (sI μ 24 x 2) (blt s x) := h.w_co (x := x) (v := 2)
    refine ⟨sz s x + 1, m_step_loop hx hg (sz s x) 0 _ (by omega) ?_ (fun μ1 h1 hF v => hp μ1 h1 ((Fr.sI m24).trans hF))⟩
    rw [hlds_0, grl_nil]
    exact h2.ext (by simp only [eqS, q_cel_uco, q_sta_uco, q_ad_uco, q_sz_uco, q_tg_uco, q_ct_uco, q_co_uco, q_fl_uco, q_lg_uco, q_nx_uco, q_rt_uco, q_bf_uco, q_hf_uco, q_he_uco, q_hc_uco, q_ov_uco, q_oc_uco, q_cl_uco, q_lf_uco, q_row_uco, q_log_uco, q_tr_uco, q_ps_uco, q_mv_uco, q_wh_uco, and_self])
