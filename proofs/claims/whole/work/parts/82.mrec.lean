/-! Stuck counts taken anew: the reference -/
theorem eo_eq {o : Option Nat} {x : Nat} (hx : x < 2 ^ 31) (ho : ∀ y, o = some y → y < 2 ^ 31) : eo o = nI x ↔ o = some x := by
  cases o with
  | none => exact ⟨fun q => absurd q (nI_m1' hx), fun q => (by cases q)⟩
  | some y =>
    show nI y = nI x ↔ _
    rw [nI_eq (ho y rfl) hx]
    exact ⟨fun q => by rw [q], fun q => Option.some.inj q⟩
theorem fc_le (f : Nat → Option Nat) (y n : Nat) : fc f y n ≤ n := by
  have h : fc f y n ≤ sm (fun _ => 1) n := sm_le (fun i _ => by split <;> omega)
  rw [sm_1s] at h
  exact h
theorem hol_le {s : St} (hw : Wf s) (hl : (row s).length ≤ 262) (x : Nat) : hol s x ≤ 396 := by
  have h1 := fc_le (rt s) x 6
  have h2 := sum_sz hw
  have h3 : sm (fun y => if sta s y = 0 then 0 else fc (fl s y) x (sz s y)) 256 ≤ sm (wLv s (sz s)) 256 := by
    refine sm_le (fun y _ => ?_)
    unfold wLv
    split
    · exact Nat.le_refl _
    · exact fc_le _ _ _
  have h4 := List.count_le_length (a := x) (l := row s)
  unfold hol
  omega
theorem m_hol4 {s : St} {x : Nat} {μ : Mem} (h : MR μ s) (hx : x < 256) (hrt : ∀ r y, r < 6 → rt s r = some y → y < 256) {K : Int32 → Int32 → Mem → Prop} : ∀ (e k : Nat), k + e = 6 → (∀ v, K (nI (fc (rt s) x 6)) v μ) → wM_holders_4 (nI x) K (e + 1) (nI (fc (rt s) x k)) (nI k) μ := by
  intro e
  induction e with
  | zero =>
    intro k hk hp
    have : k = 6 := by omega
    subst this
    unfold wM_holders_4
    rw [li_6, nI_leI (by omega) (by omega)]
    exact ⟨fun _ => hp _, fun q => absurd (Nat.le_refl _) q⟩
  | succ e ih =>
    intro k hk hp
    have hs := fc_s (rt s) x k
    unfold wM_holders_4
    rw [li_6, nI_leI (by omega) (by omega), nI_clamp (by omega), h.prt k (by omega), eo_eq (by omega) (fun y hy => by have := hrt k y (by omega) hy; omega), nI_1, nI_1]
    refine ⟨fun q => absurd q (by omega), fun _ => ⟨(nI_vp (by omega)).mpr (by omega), fun q => ?_, fun q => ?_⟩⟩
    · rw [if_pos q] at hs
      rw [← hs]
      exact ih (k + 1) (by omega) hp
    · rw [if_neg q] at hs
      rw [show fc (rt s) x k = fc (rt s) x (k + 1) by omega]
      exact ih (k + 1) (by omega) hp
theorem m_hol46 {s : St} {x y : Nat} {μ : Mem} (h : MR μ s) (hx : x < 256) (hy : y < 256) (hl : sta s y ≠ 0) (hst : sta s y ≤ 2) (hn : sz s y ≤ 12) (hf : ∀ i z, i < sz s y → fl s y i = some z → z < 256) {K : Int32 → Int32 → Mem → Prop} : ∀ (e k m : Nat), k + e = sz s y → (∀ v, K (nI (m + fc (fl s y) x (sz s y))) v μ) → wM_holders_46 (nI x) (nI y) K (e + 1) (nI (m + fc (fl s y) x k)) (nI k) μ := by
  intro e
  induction e with
  | zero =>
    intro k m hk hp
    have : k = sz s y := by omega
    subst this
    unfold wM_holders_46
    rw [nI_clamp (by omega), h.psta y hy, h.psz y hy, nI_leI (by omega) (by omega), li_0, nI_eq (by omega) (by omega)]
    exact ⟨(nI_vp (by omega)).mpr hy, fun q => absurd q hl, fun _ => ⟨fun _ => hp _, fun q => absurd (Nat.le_refl _) q⟩⟩
  | succ e ih =>
    intro k m hk hp
    have hs := fc_s (fl s y) x k
    have e12 : 12 * nI y + nI k = nI (12 * y + k) := by rw [li_12, nI_mul, nI_add]
    unfold wM_holders_46
    rw [nI_clamp (by omega), h.psta y hy, h.psz y hy, nI_leI (by omega) (by omega), li_0, nI_eq (by omega) (by omega), e12, nI_clamp (by omega), h.pfl y k hy (by omega), eo_eq (by omega) (fun z hz => by have := hf k z (by omega) hz; omega), nI_1, nI_1]
    refine ⟨(nI_vp (by omega)).mpr hy, fun q => absurd q hl, fun _ => ⟨fun q => absurd q (by omega), fun _ => ⟨(nI_vp (by omega)).mpr (by omega), fun q => ?_, fun q => ?_⟩⟩⟩
    · rw [if_pos q] at hs
      rw [show m + fc (fl s y) x k + 1 = m + fc (fl s y) x (k + 1) by omega]
      exact ih (k + 1) m (by omega) hp
    · rw [if_neg q] at hs
      rw [show fc (fl s y) x k = fc (fl s y) x (k + 1) by omega]
      exact ih (k + 1) m (by omega) hp
def fcL (s : St) (x y : Nat) : Nat := if sta s y = 0 then 0 else fc (fl s y) x (sz s y)
theorem m_hol36 {s : St} {x m : Nat} {μ : Mem} (h : MR μ s) (hw : Wf s) (hb : Bd s) (hx : x < 256) (hf : ∀ y i z, sta s y ≠ 0 → i < sz s y → fl s y i = some z → sta s z ≠ 0) {K : Int32 → Int32 → Mem → Prop} : ∀ (e k : Nat), k + e = 256 → (∀ v, K (nI (m + sm (fcL s x) 256)) v μ) → wM_holders_36 (nI x) K (e + 1) (nI (m + sm (fcL s x) k)) (nI k) μ := by
  intro e
  induction e with
  | zero =>
    intro k hk hp
    have : k = 256 := by omega
    subst this
    unfold wM_holders_36
    rw [li_256, nI_leI (by omega) (by omega)]
    exact ⟨fun _ => hp _, fun q => absurd (Nat.le_refl _) q⟩
  | succ e ih =>
    intro k hk hp
    have hs : sm (fcL s x) (k + 1) = sm (fcL s x) k + fcL s x k := rfl
    unfold wM_holders_36
    rw [li_256, nI_leI (by omega) (by omega), nI_1]
    refine ⟨fun q => absurd q (by omega), fun _ => ?_⟩
    by_cases hl : sta s k = 0
    · refine ⟨1, ?_⟩
      unfold wM_holders_46
      rw [nI_clamp (by omega), h.psta k (by omega), li_0, nI_eq (by have := hb.1 k; omega) (by omega)]
      refine ⟨(nI_vp (by omega)).mpr (by omega), fun _ => ?_, fun q => absurd hl q⟩
      have e0 : fcL s x k = 0 := if_pos hl
      have := ih (k + 1) (by omega) hp
      rw [hs, e0, Nat.add_zero] at this
      exact this
    · refine ⟨sz s k + 1, ?_⟩
      have e0 : fcL s x k = fc (fl s k) x (sz s k) := if_neg hl
      refine m_hol46 h hx (by omega) hl (hb.1 k) (hw.sz12 hl) (fun i z hi hz => hw.lt (hf k i z hl hi hz)) (sz s k) 0 (m + sm (fcL s x) k) (by omega) (fun v => ?_)
      have := ih (k + 1) (by omega) hp
      rw [hs, e0, ← Nat.add_assoc] at this
      exact this
theorem m_hol104 {s : St} {x m : Nat} {μ : Mem} (h : MR μ s) (hx : x < 256) (hr : ∀ y, y ∈ row s → y < 256) (hl : (row s).length ≤ 262) {K : Int32 → Int32 → Mem → Prop} : ∀ (e k c : Nat), k + e = (row s).length → c + ((row s).drop k).count x = m → (∀ v, K (nI m) v μ) → wM_holders_104 (nI x) K (e + 1) (nI c) (nI k) μ := by
  intro e
  induction e with
  | zero =>
    intro k c hk hc hp
    unfold wM_holders_104
    rw [h.prowN, nI_leI (by omega) (by omega)]
    have : (row s).drop k = [] := List.drop_eq_nil_of_le (by omega)
    rw [this] at hc
    have hc' : c = m := hc
    rw [hc']
    exact ⟨fun _ => hp _, fun q => absurd (by omega) q⟩
  | succ e ih =>
    intro k c hk hc hp
    have hlt : k < (row s).length := by omega
    have hg : (row s)[k]? = some (row s)[k] := List.getElem?_eq_getElem hlt
    have hm := hr _ (List.getElem_mem hlt)
    rw [List.drop_eq_getElem_cons hlt, List.count_cons] at hc
    unfold wM_holders_104
    rw [h.prowN, nI_leI (by omega) (by omega), nI_clamp (by omega), h.prow k _ hg, nI_eq (by omega) (by omega), nI_1, nI_1]
    refine ⟨fun q => absurd q (by omega), fun _ => ⟨(nI_vp (by omega)).mpr (by omega), fun q => ih (k + 1) (c + 1) (by omega) ?_ hp, fun q => ih (k + 1) c (by omega) ?_ hp⟩⟩
    · rw [if_pos (by simpa using q)] at hc
      omega
    · rw [if_neg (by simpa using q)] at hc
      omega
theorem m_holders {s : St} {x : Nat} {μ : Mem} {post : Int32 → Mem → Prop} (h : MR μ s) (hw : Wf s) (hb : Bd s) (hx : x < 256) (hrt : ∀ r y, r < 6 → rt s r = some y → y < 256) (hf : ∀ y i z, sta s y ≠ 0 → i < sz s y → fl s y i = some z → sta s z ≠ 0) (hr : ∀ y, y ∈ row s → y < 256) (hl : (row s).length ≤ 262) (hp : post (nI (hol s x)) μ) : wM_holders (nI x) post μ := by
  unfold wM_holders
  refine ⟨7, m_hol4 h hx hrt 6 0 (by omega) (fun _ => ⟨257, ?_⟩)⟩
  refine m_hol36 (m := fc (rt s) x 6) h hw hb hx hf 256 0 (by omega) (fun _ => ⟨(row s).length + 1, ?_⟩)
  refine m_hol104 (m := hol s x) h hx hr hl (row s).length 0 _ (by omega) ?_ (fun _ => hp)
  have : sm (fun y => if sta s y = 0 then 0 else fc (fl s y) x (sz s y)) 256 = sm (fcL s x) 256 := sm_congr (fun _ _ => rfl)
  unfold hol
  rw [this, List.drop_zero]
theorem inv_facts {s : St} {β : Nat → Option Nat} (h : Inv s β) : Wf s ∧ Bd s ∧ Ag s ∧ (row s).length + osz s ≤ 262 ∧ (∀ y, y ∈ row s → sta s y = 2) ∧ (∀ r y, r < 6 → rt s r = some y → sta s y ≠ 0) ∧ (∀ x i y, sta s x ≠ 0 → i < sz s x → fl s x i = some y → sta s y ≠ 0) := by
  have hg := inv_gdS h
  obtain ⟨g, S, T, ⟨hw, hb, ha, hl, hr⟩, hL, hC, hS, hT⟩ := h
  refine ⟨hw, hb, ha, hl, hr, fun r y hr6 e => ?_, hg.2.2.2⟩
  rcases hS.2.2.2.2.1 r y hr6 e with q | q
  · have := hS.1 y q; omega
  · omega
theorem osz_mem {s : St} {x : Nat} (hw : Wf s) (h2 : sta s x = 2) : sz s x ≤ osz s := by
  have ho := sm_mem (f := fun x => if sta s x = 2 then sz s x else 0) (hw.lt (show sta s x ≠ 0 by omega))
  rw [if_pos h2] at ho
  exact ho
theorem m_rc_loop {s : St} (h : InvR s) {K : Int32 → Mem → Prop} : ∀ (e k : Nat) (μ : Mem), k + e = 128 → MR μ (rcN s k) → (∀ μ1, MR μ1 (rcN s 128) → Fr moS μ μ1 → ∀ v, K v μ1) → wM_countAnew_2 K (e + 1) (nI k) μ := by
  have m23 : moS 23 := by unfold moS; omega
  intro e
  induction e with
  | zero =>
    intro k μ hk hM hp
    have : k = 128 := by omega
    subst this
    unfold wM_countAnew_2
    rw [li_128, nI_leI (by omega) (by omega)]
    exact ⟨fun _ => hp μ hM (Fr.refl μ) _, fun q => absurd (Nat.le_refl _) q⟩
  | succ e ih =>
    intro k μ hk hM hp
    have hI := inv_rcN h k
    obtain ⟨hw, hb, ha, hl, hr, hrt, hf⟩ := inv_facts hI.1
    have nxt : ∀ μ1, MR μ1 (rcN s (k + 1)) → Fr moS μ μ1 → wM_countAnew_2 K (e + 1) (nI (k + 1)) μ1 := fun μ1 h1 hF => ih (k + 1) μ1 (by omega) h1 (fun μ2 h2 hF2 v => hp μ2 h2 (hF.trans hF2) v)
    unfold wM_countAnew_2
    rw [li_128, nI_leI (by omega) (by omega), nI_1]
    refine ⟨fun q => absurd q (by omega), fun _ => m_objectAt hM hw (by omega) (fun _ => ?_) (fun q => absurd q (by omega))⟩
    cases ho : obj (rcN s k) k with
    | none =>
      refine ⟨fun _ => nxt μ (by rw [rcN_none ho]; exact hM) (Fr.refl μ), fun q => absurd m1_neg q⟩
    | some x =>
      have hlive := (obj_live hw ho).1
      have hx := hw.lt hlive
      have hx2 := hI.2.1 x hlive
      have hc3 := hb.2.1 x
      have es := rcN_some ho
      generalize rcN s k = t at *
      have ex : eo (some x) = nI x := rfl
      rw [ex, nI_clamp (by omega), hM.pct x hx, li_3, nI_eq (by omega) (by omega)]
      refine ⟨fun q => absurd q (nI_pos (by omega)), fun _ => ⟨(nI_vp (by omega)).mpr hx, fun q => ?_, fun q => ?_⟩⟩
      · rw [if_pos q] at es
        have hle := hol_le hw (by omega) x
        refine m_holders hM hw hb hx (fun r y hr6 e => hw.lt (hrt r y hr6 e)) hf (fun y hy => hw.lt (by have := hr y hy; omega)) (by omega) ?_
        rw [nI_leI (by omega) (by omega), li_0, nI_eq (by omega) (by omega)]
        refine ⟨fun w => ⟨(nI_vp (by omega)).mpr hx, ?_⟩, fun w => ⟨(nI_vp (by omega)).mpr hx, ?_⟩⟩
        · intro μ7 e7
          subst e7
          have h7 : MR (sI μ 23 x (nI 3)) _ := hM.w_ct (x := x) (v := 3)
          refine ⟨fun z => absurd z (by omega), fun _ => nxt _ ?_ (Fr.sI m23)⟩
          rw [es]
          unfold rc1
          rw [if_neg (by omega), if_neg (by omega)]
          exact h7
        · intro μ10 e10
          subst e10
          have h7 : MR (sI μ 23 x (nI (hol t x))) _ := hM.w_ct (x := x) (v := hol t x)
          refine ⟨fun z => ?_, fun z => nxt _ ?_ (Fr.sI m23)⟩
          · rw [z] at h7
            rw [z]
            have hos := osz_mem hw hx2
            have hwu : Wf (uct t (up (ct t) x 0)) := hw.ext rfl (fun _ => Iff.rfl) rfl rfl rfl rfl
            refine m_vanish h7 hx (hw.sz12 hlive) (hw.end hlive) hw.lf1 ⟨hb.1, ?_, hb.2.2⟩ (fun i y hi hy => hw.lt (hf x i y hlive hi hy)) (by show (row t).length + sz t x ≤ 262; omega) (fun μ1 h1 hF => nxt μ1 ?_ ((Fr.sI m23).trans hF))
            · intro y
              show up (ct t) x 0 y ≤ 3
              rw [up_eq]
              split
              · omega
              · exact hb.2.1 y
            · rw [es]
              unfold rc1
              rw [if_pos z]
              exact h1
          · rw [es]
            unfold rc1
            rw [if_neg z, if_pos (by omega)]
            exact h7
      · rw [if_neg q] at es
        exact nxt μ (by rw [es]; exact hM) (Fr.refl μ)
theorem m_countAnew {s : St} (h : InvR s) {μ : Mem} {post : Mem → Prop} (hM : MR μ s) (hp : ∀ μ1, MR μ1 (wht (rcN s 128)) → Fr moS μ μ1 → post μ1) : wM_countAnew post μ := by
  unfold wM_countAnew
  refine ⟨129, m_rc_loop h 128 0 μ (by omega) hM (fun μ1 h1 hF v => ⟨257, m_white_loop (s := rcN s 128) 256 0 μ1 (by omega) ?_ (fun μ2 h2 hF2 v => hp μ2 h2 (hF.trans hF2))⟩)⟩
  rw [cok_0]
  generalize rcN s 128 = t at h1
  exact h1.ext (by simp only [eqS, q_cel_uco, q_sta_uco, q_ad_uco, q_sz_uco, q_tg_uco, q_ct_uco, q_co_uco, q_fl_uco, q_lg_uco, q_nx_uco, q_rt_uco, q_bf_uco, q_hf_uco, q_he_uco, q_hc_uco, q_ov_uco, q_oc_uco, q_cl_uco, q_lf_uco, q_row_uco, q_log_uco, q_tr_uco, q_ps_uco, q_mv_uco, q_wh_uco, and_self])
