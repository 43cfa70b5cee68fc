/-! The reference clears the sparsest block -/
theorem m_clear {s : St} (hw : Wf s) {μ : Mem} {post : Mem → Prop} (h : MR μ s) (hp : ∀ μ1, MR μ1 (clear s) → Fr moS μ μ1 → post μ1) : wM_clearBlock post μ := by
  have m17 : moS 17 := by unfold moS; omega
  unfold wM_clearBlock
  refine ⟨5, m_sparse_loop h hw.pl 3 0 (by omega) (fun v => ?_)⟩
  rw [← best_eq]
  unfold clear at hp
  have hB := cB_is (uu s) 4
  cases hc : cB (uu s) 4 with
  | none =>
    rw [hc] at hp
    exact ⟨fun q => absurd q eo_neg, fun _ => hp μ h (Fr.refl μ)⟩
  | some b =>
    rw [hc] at hp hB
    have hb : b < 4 := hB.1
    have eb : eo (some b) = nI b := rfl
    have e32 : 32 * nI b = nI (32 * b) := by rw [li_32, nI_mul]
    rw [eb]
    refine ⟨fun _ => m_forget h (fun μ3 h3 hF3 => ?_), fun q => absurd (nI_pos' (by omega)) q⟩
    intro μ4 e4
    subst e4
    have h4 : MR (sI μ3 17 19 (nI b)) (ucl (fgt s) (nI b)) := h3.w_cl
    refine ⟨33, ?_⟩
    rw [e32]
    refine m_clear_loop (s := ucl (fgt s) (nI b)) (wf_cl (wf_fgt hw) _) hb 32 0 _ (by omega) h4 (fun μ5 h5 hF5 v => ?_)
    intro μ6 e6
    subst e6
    exact m_endStep (s := ucl (clb (ucl (fgt s) (nI b)) b 32) (-1)) h5.w_cl (fun μ7 h7 hF7 => hp μ7 h7 ((((hF3.trans (Fr.sI m17)).trans hF5).trans (Fr.sI m17)).trans hF7))
