/-! Small steps of a pause: both sides -/
def fgt (s : St) : St := uov (uhf s (-1)) (-1)
theorem pg_17 (s : St) (j : Nat) : pg s 17 j = if j = 13 then hf s else if j = 14 then he s else if j = 15 then hc s else if j = 16 then ov s else if j = 17 then oc s else if j = 19 then cl s else 0 := rfl
theorem c_close {post : Mem → Prop} {μ : Mem} {s : St} {ι : Nat → Nat} {d : Int32} {P : Nat → Prop} (h : CR μ s ι d P) (hp : ∀ μ1, CR μ1 (fgt s) ι d P → Fr clS μ μ1 → post μ1) : wP_close post μ := by
  have s7 : spS 7 := Or.inl rfl
  have s8 : spS 8 := Or.inr rfl
  unfold wP_close
  refine c_open (l := 0) (e := 0) (by omega) (by omega) (lay_ok h.lay rfl) ?_
  have hF1 := opn_fr (μ := μ) (l := 0) (e := 0) s7
  refine c_open (l := 0) (e := 0) (by omega) (by omega) (lay_ok (hF1.Lay h.lay) rfl) ?_
  have hF2 := opn_fr (μ := opn μ 7 0 0) (l := 0) (e := 0) s8
  have hF := hF1.trans hF2
  have a0 : mI (opn (opn μ 7 0 0) 8 0 0) 7 = mI (opn μ 7 0 0) 7 := by
    conv => lhs; unfold opn
    rw [mI_ne (by decide), mI_ne (by decide), mI_ne (by decide)]
    rfl
  have b0 : ∀ ν : Mem, ∀ x, mI (opn ν x 0 0) x 0 = 0 ∧ mI (opn ν x 0 0) x 1 = 0 ∧ mI (opn ν x 0 0) x 2 = 0 := by
    intro ν x
    unfold opn
    refine ⟨?_, ?_, ?_⟩
    · rw [mI_no (by omega), mI_no (by omega), mI_sI_self]; rfl
    · rw [mI_no (by omega), mI_sI_self]; rfl
    · rw [mI_sI_self]; rfl
  have h7 := b0 μ 7
  have h8 := b0 (opn μ 7 0 0) 8
  rw [← a0] at h7
  generalize opn (opn μ 7 0 0) 8 0 0 = μ1 at hF h7 h8 ⊢
  refine hp μ1 ?_ (hF.mono (fun r hr => by unfold spS at hr; unfold clS; omega))
  have f : ∀ r, r ≠ 7 → r ≠ 8 → mI μ1 r = mI μ r ∧ mR μ1 r = mR μ r := fun r h1 h2 => hF.2.2 r (by unfold spS; omega)
  have e : ∀ {α : Type} (g : St → α), (∀ s v, g (uov s v) = g s) → (∀ s v, g (uhf s v) = g s) → g (fgt s) = g s := fun g h1 h2 => (h1 _ _).trans (h2 _ _)
  refine h.mk hF (fun x hx => ?_) ?_ ?_ ?_ ?_ ?_ ?_ ?_ ?_ ?_ ?_
  · have hi := h.it x hx
    have h35 := hi.i35
    exact hi.frame hF (f _ (by omega) (by omega)).1 (f _ (by omega) (by omega)).2 (f _ (by omega) (by omega)).1 rfl rfl rfl rfl rfl rfl rfl
  · rw [(f 3 (by omega) (by omega)).2]; exact h.pat
  · rw [(f 1 (by omega) (by omega)).2]; exact h.prt
  · rw [(f 2 (by omega) (by omega)).2]; exact h.pbf
  · exact h.pl.span hF rfl rfl rfl (Or.inl ⟨rfl, h7⟩) (Or.inl ⟨rfl, h8⟩)
  · exact h.wt.frame (f 13 (by omega) (by omega)).1 (f 14 (by omega) (by omega)).2
  · exact h.plo.frame (f 9 (by omega) (by omega)).1 (f 10 (by omega) (by omega)).2 (f 11 (by omega) (by omega)).1 (f 12 (by omega) (by omega)).2
  · rw [(f 0 (by omega) (by omega)).1]; exact h.ptr
  · rw [(f 0 (by omega) (by omega)).1]; exact h.pps
  · rw [(f 0 (by omega) (by omega)).1]; exact h.pmv
  · rw [(f 0 (by omega) (by omega)).1]; exact h.pwh
theorem m_forget {post : Mem → Prop} {μ : Mem} {s : St} (h : MR μ s) (hp : ∀ μ1, MR μ1 (fgt s) → Fr moS μ μ1 → post μ1) : wM_forget post μ := by
  have m17 : moS 17 := by unfold moS; omega
  unfold wM_forget
  intro μ1 e1 μ2 e2
  subst e1; subst e2
  exact hp _ h.w_hf.w_ov ((Fr.sI m17).trans (Fr.sI m17))
theorem wf_fgt {s : St} (h : Wf s) : Wf (fgt s) := by
  refine ⟨h.1, h.2.1, ⟨⟨h.pl.1, Or.inl rfl, Or.inl rfl⟩, fun q => absurd rfl q, fun j hj => ?_⟩, h.lf1⟩
  rcases hj with hj | hj
  · exact absurd rfl hj.1
  · exact absurd rfl hj.1
/-- no line is left behind any longer -/
def elf (s : St) : St := ulf s (fun _ => 0)
def lfk (s : St) (k l : Nat) : Nat := if l < k then 0 else lf s l
theorem lfk_s (s : St) (k : Nat) : up (lfk s k) k 0 = lfk s (k + 1) := by
  funext l
  unfold up lfk
  by_cases e : l = k
  · rw [if_pos e, if_pos (by omega)]
  · rw [if_neg e]
    by_cases w : l < k
    · rw [if_pos w, if_pos (by omega)]
    · rw [if_neg w, if_neg (by omega)]
theorem lfk_0 (s : St) : lfk s 0 = lf s := by
  funext l
  exact if_neg (by omega)
theorem m_endStep_loop {s : St} {K : Int32 → Mem → Prop} : ∀ (e k : Nat) (μ : Mem), k + e = 32 → MR μ (ulf s (lfk s k)) → (∀ μ1, MR μ1 (ulf s (lfk s 32)) → Fr moS μ μ1 → ∀ v, K v μ1) → wM_endStep_2 K (e + 1) (nI k) μ := by
  have m29 : moS 29 := by unfold moS; omega
  intro e
  induction e with
  | zero =>
    intro k μ hk hM h
    have : k = 32 := by omega
    subst this
    unfold wM_endStep_2
    rw [li_32, nI_leI (by omega) (by omega)]
    exact ⟨fun _ => h μ hM (Fr.refl μ) _, fun q => absurd (Nat.le_refl _) q⟩
  | succ e ih =>
    intro k μ hk hM h
    unfold wM_endStep_2
    rw [li_32, nI_leI (by omega) (by omega), nI_clamp (by omega), nI_1]
    refine ⟨fun q => absurd q (by omega), fun _ => ⟨(nI_vp (by omega)).mpr (by omega), ?_⟩⟩
    intro μ2 e2
    subst e2
    have h2 := hM.w_lf (x := k) (v := 0)
    rw [qq_ulf, q_lf_ulf, lfk_s] at h2
    exact ih (k + 1) _ (by omega) h2 (fun μ1 h1 hF v => h μ1 h1 ((Fr.sI m29).trans hF) v)
theorem lf_out {μ : Mem} {s : St} (h : MR μ (ulf s (lfk s 32))) : MR μ (elf s) := by
  obtain ⟨h0, h1, h2, h3, h4, h5, h6, h7, h8, h9, h10, h11, h12, h13, h14, h15, h16, h17, h18, h19⟩ := h
  refine ⟨h0, h1, h2, h3, h4, h5, h6, h7, h8, h9, h10, h11, h12, h13, h14, h15, h16, h17, fun l hl => ?_, h19⟩
  have := h18 l hl
  rw [q_lf_ulf] at this
  unfold lfk at this
  rw [if_pos hl] at this
  exact this
theorem m_endStep {post : Mem → Prop} {μ : Mem} {s : St} (h : MR μ s) (hp : ∀ μ1, MR μ1 (elf s) → Fr moS μ μ1 → post μ1) : wM_endStep post μ := by
  unfold wM_endStep
  refine ⟨33, m_endStep_loop (s := s) 32 0 μ (by omega) ?_ (fun μ1 h1 hF v => hp μ1 (lf_out h1) hF)⟩
  rw [lfk_0]
  exact h.ext (by simp only [eqS, q_cel_ulf, q_sta_ulf, q_ad_ulf, q_sz_ulf, q_tg_ulf, q_ct_ulf, q_co_ulf, q_fl_ulf, q_lg_ulf, q_nx_ulf, q_rt_ulf, q_bf_ulf, q_hf_ulf, q_he_ulf, q_hc_ulf, q_ov_ulf, q_oc_ulf, q_cl_ulf, q_lf_ulf, q_row_ulf, q_log_ulf, q_tr_ulf, q_ps_ulf, q_mv_ulf, q_wh_ulf, and_self])
theorem c_forgetMoved_loop {K : Int32 → Mem → Prop} {μ0 : Mem} : ∀ (e k : Nat) (μ : Mem), k + e = 32 → (∀ l, l < k → mI μ 6 l = 0) → Fr (oneS 6) μ0 μ → (∀ μ1, (∀ l, l < 32 → mI μ1 6 l = 0) → Fr (oneS 6) μ0 μ1 → ∀ v, K v μ1) → wP_forgetMovedOut_2 K (e + 1) (nI k) μ := by
  intro e
  induction e with
  | zero =>
    intro k μ hk h0 hF h
    have : k = 32 := by omega
    subst this
    unfold wP_forgetMovedOut_2
    rw [li_32, nI_leI (by omega) (by omega)]
    exact ⟨fun _ => h μ h0 hF _, fun q => absurd (Nat.le_refl _) q⟩
  | succ e ih =>
    intro k μ hk h0 hF h
    unfold wP_forgetMovedOut_2
    rw [li_32, nI_leI (by omega) (by omega), nI_clamp (by omega), nI_1]
    refine ⟨fun q => absurd q (by omega), fun _ => ⟨(nI_vp (by omega)).mpr (by omega), ?_⟩⟩
    intro μ2 e2
    subst e2
    refine ih (k + 1) _ (by omega) (fun l hl => ?_) (hF.trans frI) h
    by_cases w : l = k
    · subst w; exact mI_sI_self _ _ _ _
    · rw [mI_no (fun z => w z.2)]
      exact h0 l (by omega)
theorem c_forgetMoved {post : Mem → Prop} {μ : Mem} {s : St} {ι : Nat → Nat} {d : Int32} {P : Nat → Prop} (h : CR μ s ι d P) (hp : ∀ μ1, CR μ1 (elf s) ι d P → Fr clS μ μ1 → post μ1) : wP_forgetMovedOut post μ := by
  unfold wP_forgetMovedOut
  refine ⟨33, c_forgetMoved_loop (μ0 := μ) 32 0 μ (by omega) (fun l hl => by omega) (Fr.refl μ) (fun μ1 h0 hF v => ?_)⟩
  have f : ∀ r, r ≠ 6 → mI μ1 r = mI μ r ∧ mR μ1 r = mR μ r := fun r h1 => hF.2.2 r (by unfold oneS; omega)
  refine hp μ1 ?_ (hF.mono (fun r hr => by unfold oneS at hr; unfold clS; omega))
  refine h.mk hF (fun x hx => ?_) ?_ ?_ ?_ ?_ ?_ ?_ ?_ ?_ ?_ ?_
  · have hi := h.it x hx
    have h35 := hi.i35
    exact hi.frame hF (f _ (by omega)).1 (f _ (by omega)).2 (f _ (by omega)).1 rfl rfl rfl rfl rfl rfl rfl
  · rw [(f 3 (by omega)).2]; exact h.pat
  · rw [(f 1 (by omega)).2]; exact h.prt
  · rw [(f 2 (by omega)).2]; exact h.pbf
  · obtain ⟨p1, p2, p3, p4, p5⟩ := h.pl
    refine ⟨?_, fun l hl => ⟨(h0 l hl).trans rfl, Or.inl rfl⟩, ?_, ?_, ?_⟩
    · rw [(f 5 (by omega)).1]; exact p1
    · rw [(f 4 (by omega)).1]; exact p3
    · exact p4.same (f 7 (by omega)).1 rfl rfl rfl
    · exact p5.same (f 8 (by omega)).1 rfl rfl
  · exact h.wt.frame (f 13 (by omega)).1 (f 14 (by omega)).2
  · exact h.plo.frame (f 9 (by omega)).1 (f 10 (by omega)).2 (f 11 (by omega)).1 (f 12 (by omega)).2
  · rw [(f 0 (by omega)).1]; exact h.ptr
  · rw [(f 0 (by omega)).1]; exact h.pps
  · rw [(f 0 (by omega)).1]; exact h.pmv
  · rw [(f 0 (by omega)).1]; exact h.pwh
theorem wf_elf {s : St} (h : Wf s) : Wf (elf s) := ⟨h.1, h.2.1, ⟨placeI_of h.pl rfl rfl rfl rfl rfl (fun _ => by show 0 ≤ 1; omega), h.2.2.1.2.1, h.2.2.1.2.2⟩, fun _ => by show 0 ≤ 1; omega⟩
