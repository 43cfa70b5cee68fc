/-! The class loses the white ones -/
theorem c_sw67 {s : St} {x : Nat} {R : List Nat} {Q : Nat → Prop} {w : Int32} (hw : Wf s) (hb : Bd s) (ha : Ag s) (hx : sta s x ≠ 0) (hf : ∀ i y, i < sz s x → fl s x i = some y → sta s y ≠ 0) (hlen : R.length + (wfk s x (sz s x)).length ≤ 262) {ι : Nat → Nat} {d : Int32} {K : Int32 → Mem → Prop} :
    ∀ (e k : Nat) (μ : Mem), k + e = sz s x → CR μ (nf s Q (R ++ wfk s x k) w) ι d (lv s) → (∀ μ1, CR μ1 (nf s Q (R ++ wfk s x (sz s x)) w) ι d (lv s) → Fr clS μ μ1 → ∀ v, K v μ1) → wC_loseWhite_67 (ι x + 1) (nI (sz s x)) K (e + 1) (nI k) μ := by
  have hs12 := hw.sz12 hx
  intro e
  induction e with
  | zero =>
    intro k μ hk hM h
    have : k = sz s x := by omega
    subst this
    unfold wC_loseWhite_67
    rw [nI_leI (by omega) (by omega)]
    exact ⟨fun _ => h μ hM (Fr.refl μ) _, fun q => absurd (Nat.le_refl _) q⟩
  | succ e ih =>
    intro k μ hk hM h
    have hi := hM.it x hx
    have p1 : mL μ (ι x + 1) = sz s x := hi.l1
    have p3 : mR μ (ι x + 1) k = (fl s x k).map ι := hi.pfl k (show k < sz s x by omega)
    unfold wC_loseWhite_67
    rw [nI_leI (by omega) (by omega), nI_clamp (by omega), nI_1, p1, p3]
    refine ⟨fun q => absurd q (by omega), fun _ => ⟨hi.o1, (nI_vp (by omega)).mpr (by omega), ?_⟩⟩
    intro e6 he6
    cases hfk : fl s x k with
    | none =>
      rw [hfk] at he6
      subst he6
      exact ⟨fun _ => ih (k + 1) μ (by omega) (by rw [wk_none hfk]; exact hM) h, fun y hy => (by cases hy)⟩
    | some y =>
      rw [hfk] at he6
      subst he6
      have hy := hf k y (by omega) hfk
      refine ⟨fun q => (by cases q), fun y7 hy7 => ?_⟩
      have : ι y = y7 := Option.some.inj hy7
      subst this
      have hiy := hM.it y hy
      have hag : 0 < ct s y ↔ sta s y = 2 := ha.iff hy
      refine ⟨hiy.o, c_isWhite hiy (hb.2.1 y) (hb.2.2.1 y) (fun q1 q2 => ⟨fun w => absurd w (by decide), fun _ => ?_⟩) (fun q => ⟨fun _ => ?_, fun w => absurd rfl w⟩)⟩
      · have hyw : isW s y := ⟨hag.mp q1, q2⟩
        exact ih (k + 1) μ (by omega) (by rw [wk_white hfk hyw]; exact hM) h
      · have hyw : ¬ isW s y := fun z => q ⟨hag.mpr z.1, z.2⟩
        have hl1 : (wfk s x (k + 1)).length ≤ (wfk s x (sz s x)).length := by
          have := wk_le (s := s) (x := x) (k := k + 1) e
          rw [show k + 1 + e = sz s x by omega] at this
          exact this
        rw [wk_other hfk hyw, List.length_append] at hl1
        have hl2 : [y].length = 1 := rfl
        refine c_wait hM hy (by show (R ++ wfk s x k).length < 262; rw [List.length_append]; omega) (fun μ1 h1 hF => ?_)
        refine ih (k + 1) μ1 (by omega) ?_ (fun μ2 h2 hF2 v => h μ2 h2 (hF.trans hF2) v)
        rw [wk_other hfk hyw, ← List.append_assoc]
        exact h1.ext (by unfold nf; simp only [eqS, q_cel_urow, q_sta_urow, q_ad_urow, q_sz_urow, q_tg_urow, q_ct_urow, q_co_urow, q_fl_urow, q_lg_urow, q_nx_urow, q_rt_urow, q_bf_urow, q_hf_urow, q_he_urow, q_hc_urow, q_ov_urow, q_oc_urow, q_cl_urow, q_lf_urow, q_row_urow, q_log_urow, q_tr_urow, q_ps_urow, q_mv_urow, q_wh_urow, q_cel_uwh, q_sta_uwh, q_ad_uwh, q_sz_uwh, q_tg_uwh, q_ct_uwh, q_co_uwh, q_fl_uwh, q_lg_uwh, q_nx_uwh, q_rt_uwh, q_bf_uwh, q_hf_uwh, q_he_uwh, q_hc_uwh, q_ov_uwh, q_oc_uwh, q_cl_uwh, q_lf_uwh, q_row_uwh, q_log_uwh, q_tr_uwh, q_ps_uwh, q_mv_uwh, q_wh_uwh, and_self])
def w1 (s : St) (x : Nat) : Nat := if sta s x = 2 ∧ co s x = 0 then 1 else 0
theorem c_sw10 {s : St} (hw : Wf s) (hb : Bd s) (ha : Ag s) (hf : ∀ x i y, sta s x ≠ 0 → i < sz s x → fl s x i = some y → sta s y ≠ 0) (hlen : (row s).length + (wfs s 128).length ≤ 262) {ι : Nat → Nat} {d : Int32} {K : Int32 → Mem → Prop} :
    ∀ (e k : Nat) (μ : Mem), k + e = 128 → CR μ (nf s (fun x => isW s x ∧ ad s x < k) (row s ++ wfs s k) (wh s + nI (sm (wAt s (w1 s)) k))) ι d (lv s) →
    (∀ μ1, CR μ1 (nf s (isW s) (row s ++ wfs s 128) (wh s + nI (sm (wAt s (w1 s)) 128))) ι d (lv s) → Fr clS μ μ1 → ∀ v, K v μ1) → wC_loseWhite_10 128 K (e + 1) (nI k) μ := by
  have c0 : clS 0 := by unfold clS; omega
  intro e
  induction e with
  | zero =>
    intro k μ hk hM h
    have : k = 128 := by omega
    subst this
    unfold wC_loseWhite_10
    rw [li_128, nI_leI (by omega) (by omega)]
    refine ⟨fun _ => h μ (hM.ext (nf_congr hw (fun x hx => ⟨fun z => z.1, fun z => ⟨z, ad_lt hw hx⟩⟩))) (Fr.refl μ) _, fun q => absurd (Nat.le_refl _) q⟩
  | succ e ih =>
    intro k μ hk hM h
    have hs : wfs s (k + 1) = wfs s k ++ wfA s k := rfl
    have ss : sm (wAt s (w1 s)) (k + 1) = sm (wAt s (w1 s)) k + wAt s (w1 s) k := rfl
    have skip : (∀ x, sta s x ≠ 0 → isW s x → ad s x ≠ k) → wfA s k = [] → wAt s (w1 s) k = 0 → wC_loseWhite_10 (nI 128) K (e + 1) (nI (k + 1)) μ := by
      intro hn e1 e2
      refine ih (k + 1) μ (by omega) ?_ h
      rw [hs, e1, List.append_nil, ss, e2, Nat.add_zero]
      refine hM.ext (nf_congr hw (fun x hx => ?_))
      constructor
      · intro z; exact ⟨z.1, by omega⟩
      · intro z
        have := hn x hx z.1
        exact ⟨z.1, by omega⟩
    have hob : ∀ x, obj (nf s (fun x => isW s x ∧ ad s x < k) (row s ++ wfs s k) (wh s + nI (sm (wAt s (w1 s)) k))) k = some x ↔ obj s k = some x := by
      intro x
      have h1 : obj (nf s (fun x => isW s x ∧ ad s x < k) (row s ++ wfs s k) (wh s + nI (sm (wAt s (w1 s)) k))) k = obj (lsQ s (fun x => isW s x ∧ ad s x < k)) k := rfl
      rw [h1, obj_ls]
      refine ⟨fun z => z.1, fun z => ⟨z, fun q => ?_⟩⟩
      have := (obj_live hw z).2
      omega
    unfold wC_loseWhite_10
    rw [li_128, nI_leI (by omega) (by omega), nI_clamp (by omega), hM.pat k (by omega), opt_ext hob, nI_1]
    refine ⟨fun q => absurd q (by omega), fun _ => ⟨(nI_vp (by omega)).mpr (by omega), ?_⟩⟩
    intro e2 he2
    cases ho : obj s k with
    | none =>
      rw [ho] at he2
      subst he2
      refine ⟨fun _ => skip (fun x hx _ e => ?_) (wfA_none ho) (wAt_none ho), fun y hy => (by cases hy)⟩
      have h1 := obj_ad hw hx
      rw [e, ho] at h1
      cases h1
    | some x =>
      rw [ho] at he2
      subst he2
      refine ⟨fun q => (by cases q), fun y hy => ?_⟩
      have : ι x = y := Option.some.inj hy
      subst this
      obtain ⟨hx, hxk⟩ := obj_live hw ho
      have hi := hM.it x hx
      have hag : 0 < ct s x ↔ sta s x = 2 := ha.iff hx
      refine ⟨hi.o, c_isWhite hi (hb.2.1 x) (hb.2.2.1 x) (fun q1 q2 => ⟨fun w => absurd w (by decide), fun _ => ?_⟩) (fun q => ⟨fun _ => ?_, fun w => absurd rfl w⟩)⟩
      · have hxw : isW s x := ⟨hag.mp q1, q2⟩
        have hwl := nf_wf hw (fun x => isW s x ∧ ad s x < k) (row s ++ wfs s k) (wh s + nI (sm (wAt s (w1 s)) k))
        have hnq : ¬ (isW s x ∧ ad s x < k) := fun z => by omega
        have e1 : wfs s (k + 1) = wfs s k ++ wfk s x (sz s x) := by rw [hs, wfA_some ho, wf1_w hxw]
        have hl2 : (wfs s (k + 1)).length ≤ (wfs s 128).length := by
          have := wfs_le (s := s) (k := k + 1) e
          rw [show k + 1 + e = 128 by omega] at this
          exact this
        rw [e1, List.length_append] at hl2
        have ew : wAt s (w1 s) k = 1 := by
          rw [wAt_some ho]
          exact if_pos hxw
        refine c_remove hM hx (hwl.ow (show lsT s (fun x => isW s x ∧ ad s x < k) x ≠ 0 from lsT_live.mpr ⟨hx, hnq⟩)) hwl.sm (fun μ7 h7 hF7 => ?_)
        intro μ8 e8
        subst e8
        rw [show mI μ7 0 10 = wh s + nI (sm (wAt s (w1 s)) k) from h7.pwh, wh_1]
        have h8 := h7.w_wh (v := wh s + nI (sm (wAt s (w1 s)) k + 1))
        have h8' : CR (sI μ7 0 10 (wh s + nI (sm (wAt s (w1 s)) k + 1))) (nf s (fun x => isW s x ∧ ad s x < k + 1) (row s ++ wfs s k) (wh s + nI (sm (wAt s (w1 s)) k + 1))) ι d (lv s) := by
          refine h8.ext ((nf_one hw hx).trans (nf_congr hw (fun y hy => ?_)))
          constructor
          · intro z
            rcases z with z | z
            · exact ⟨z.1, by omega⟩
            · subst z; exact ⟨hxw, by omega⟩
          · intro z
            by_cases e : ad s y = k
            · refine Or.inr ?_
              have h3 := obj_ad hw hy
              rw [e, ho] at h3
              exact (Option.some.inj h3).symm
            · exact Or.inl ⟨z.1, by omega⟩
        have hi8 := h8'.it x hx
        refine ⟨hi8.o, hi8.o1, sz s x + 1, ?_⟩
        have el : mL (sI μ7 0 10 (wh s + nI (sm (wAt s (w1 s)) k + 1))) (ι x + 1) = sz s x := hi8.l1
        rw [el]
        refine c_sw67 (w := wh s + nI (sm (wAt s (w1 s)) k + 1)) (R := row s ++ wfs s k) (Q := fun x => isW s x ∧ ad s x < k + 1) (ι := ι) (d := d) hw hb ha hx (fun i y hi hfy => hf x i y hx hi hfy) (by rw [List.length_append]; omega) (sz s x) 0 _ (by omega) ?_ (fun μ9 h9 hF9 v => ?_)
        · have : wfk s x 0 = [] := rfl
          rw [this, List.append_nil]
          exact h8'
        · refine ih (k + 1) μ9 (by omega) ?_ (fun μ2 h2 hF2 v => h μ2 h2 (((hF7.trans (Fr.sI c0)).trans hF9).trans hF2) v)
          rw [e1, ← List.append_assoc, ss, ew]
          exact h9
      · have hxw : ¬ isW s x := fun z => q ⟨hag.mpr z.1, z.2⟩
        refine skip (fun y hy hyw e => ?_) (by rw [wfA_some ho, wf1_n hxw]) (by rw [wAt_some ho]; exact if_neg hxw)
        have h1 := obj_ad hw hy
        rw [e, ho] at h1
        have := Option.some.inj h1
        subst this
        exact hxw hyw
theorem wct_at {s : St} (hw : Wf s) : sm (wAt s (w1 s)) 128 = wct s := by
  rw [sum_at hw]
  refine sm_congr (fun x _ => ?_)
  unfold wLv w1
  by_cases e : sta s x = 0
  · rw [if_pos e, if_neg (by omega)]
  · rw [if_neg e]
theorem c_loseWhite {s : St} {ι : Nat → Nat} {d : Int32} {μ : Mem} {post : Mem → Prop} (h : CR μ s ι d (lv s)) (hw : Wf s) (hb : Bd s) (ha : Ag s) (hf : ∀ x i y, sta s x ≠ 0 → i < sz s x → fl s x i = some y → sta s y ≠ 0) (hlen : (row s).length + (wfs s 128).length ≤ 262) (hp : ∀ μ1, CR μ1 (swp s) ι d (lv (swp s)) → Fr clS μ μ1 → post μ1) : wC_loseWhite post μ := by
  unfold wC_loseWhite
  refine ⟨129, c_sw10 (ι := ι) (d := d) hw hb ha hf hlen 128 0 μ (by omega) ?_ (fun μ1 h1 hF v => hp μ1 ?_ hF)⟩
  · have h' : CR μ (urow s (row s ++ wfs s 0)) ι d (lv s) := by
      show CR μ (urow s (row s ++ [])) ι d (lv s)
      rw [List.append_nil]
      exact h
    exact h'.ext (nf_none (fun x z => by omega) (wh_0 _))
  · rw [wct_at hw] at h1
    refine CR.sub h1 (fun x hx => ?_)
    have hx' : lsT s (isW s) x ≠ 0 := hx
    exact (lsT_live.mp hx').1
