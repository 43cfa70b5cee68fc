/-! The third step of a pause, whole: both sides -/
def slt (s : St) : List (Option Nat) := rL s 6 ++ lL s (log s).length
theorem m_countSlots {J : St → List (Option Nat) → Nat → Prop} (hJ : ∀ s rest N, J s rest N → gdC s rest N ∧ ∀ v l, rest = v :: l → J (cs1 s v) (l ++ nsl s v) (N + (nsl s v).length)) {f : Nat} {s : St} {μ : Mem} {post : Int32 → Mem → Prop} (h : MR μ s) (hw : Wf s) (hl : lgOK s) (hj : J s (slt s) (slt s).length) (he : csE f s (slt s))
    (hp : ∀ μ1, MR μ1 (csN f s (slt s) 0).1 → Fr moS μ μ1 → post (nI (csN f s (slt s) 0).2) μ1) : wM_countSlots post μ := by
  have m17 : moS 17 := by unfold moS; omega
  unfold wM_countSlots
  intro μ1 e1
  subst e1
  have e0 : rL s 0 = [] := rfl
  refine ⟨7, m_rL_loop (s := s) 6 0 _ (by omega) h.w_slotN ?_ (fun μ2 h2 hS2 hF2 v => ⟨(log s).length + 1, ?_⟩)⟩
  · rw [e0]
    exact ⟨mI_sI_self _ _ _ _, fun k w hk => by simp at hk⟩
  · refine m_lL_loop hw hl (log s).length 0 μ2 (Nat.zero_add _) h2 ?_ (fun μ3 h3 hS3 hF3 v3 => ⟨f + 1, ?_⟩)
    · have e2 : lL s 0 = [] := rfl
      rw [e2, List.append_nil]
      exact hS2
    · exact m_cs_loop hJ f [] (slt s) s 0 μ3 hj he h3 hS3 (fun μ4 h4 hF4 v4 => hp μ4 h4 ((((Fr.sI m17).trans hF2).trans hF3).trans hF4))
theorem c_countSlots {J : St → List (Option Nat) → Nat → Prop} (hJ : ∀ s rest N, J s rest N → gdC s rest N ∧ ∀ v l, rest = v :: l → J (cs1 s v) (l ++ nsl s v) (N + (nsl s v).length)) {f : Nat} {s : St} {ι : Nat → Nat} {d : Int32} {μ : Mem} {post : Int32 → Mem → Prop} (h : CR μ s ι d (lv s)) (hw : Wf s) (hl : lgOK s) (hr : ∀ r x, r < 6 → rt s r = some x → sta s x ≠ 0) (hf : ∀ x i y, sta s x ≠ 0 → i < sz s x → fl s x i = some y → sta s y ≠ 0) (hj : J s (slt s) (slt s).length) (he : csE f s (slt s))
    (hp : ∀ μ1, CR μ1 (elf (csN f s (slt s) 0).1) ι d (lv (csN f s (slt s) 0).1) → Fr clS μ μ1 → post (nI (csN f s (slt s) 0).2) μ1) : wC_countSlots post μ := by
  unfold wC_countSlots wC_gatherSlots
  refine ring_clear (ι := ι) (lay_ok h.lay rfl) (fun μ1 hS1 hF1 => ?_)
  have h1 : CR μ1 s ι d (lv s) := h.frame (hF1.mono (fun r hr => by unfold rgS at hr; unfold outS; omega))
  have hF1' : Fr clS μ μ1 := hF1.mono (rg_cl (by omega))
  have e0 : rL s 0 = [] := rfl
  refine ⟨7, c_rL_loop (ι := ι) (d := d) (P := lv s) hr 6 0 μ1 (by omega) h1 (by rw [e0]; exact hS1) (fun μ2 h2 hS2 hF2 v => ⟨(log s).length + 1, ?_⟩)⟩
  refine c_lL_loop (ι := ι) (d := d) hw hl hf (log s).length 0 μ2 (Nat.zero_add _) h2 ?_ (fun μ3 h3 hS3 hF3 v3 => ⟨f + 1, ?_⟩)
  · have e2 : lL s 0 = [] := rfl
    rw [e2, List.append_nil]
    exact hS2
  · refine c_cs_loop (ι := ι) (d := d) hJ f [] (slt s) s 0 μ3 hj he h3 hS3 (fun μ4 h4 hF4 v4 => ?_)
    exact c_forgetMoved h4 (fun μ5 h5 hF5 => hp μ5 h5 ((((hF1'.trans hF2).trans hF3).trans hF4).trans hF5))
