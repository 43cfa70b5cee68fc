/-! The sparsest block is cleared: both sides -/
theorem CR.w_cl {μ : Mem} {s : St} {ι : Nat → Nat} {d : Int32} {P : Nat → Prop} (h : CR μ s ι d P) {v : Int32} : CR (sI μ 4 4 v) (ucl s v) ι d P := by
  have f : ∀ r, r ≠ 4 → mI (sI μ 4 4 v) r = mI μ r := fun r hr => mI_ne hr
  obtain ⟨p1, p2, p3, p4, p5⟩ := h.pl
  refine h.mk (S := fun r => r = 4) (Fr.sI rfl) (fun x hx => ?_) h.pat h.prt h.pbf ⟨?_, ?_, ?_, ?_, ?_⟩ (h.wt.frame (f 13 (by omega)) rfl) (h.plo.frame (f 9 (by omega)) rfl (f 11 (by omega)) rfl) ?_ ?_ ?_ ?_
  · have hi := h.it x hx
    have h35 := hi.i35
    exact hi.frame (S := fun r => r = 4) (Fr.sI rfl) (f _ (by omega)) rfl (f _ (by omega)) rfl rfl rfl rfl rfl rfl rfl
  · rw [f 5 (by omega)]; exact p1
  · rw [f 6 (by omega)]; exact p2
  · exact mI_sI_self _ _ _ _
  · exact p4.same (f 7 (by omega)) rfl rfl rfl
  · exact p5.same (f 8 (by omega)) rfl rfl
  · rw [f 0 (by omega)]; exact h.ptr
  · rw [f 0 (by omega)]; exact h.pps
  · rw [f 0 (by omega)]; exact h.pmv
  · rw [f 0 (by omega)]; exact h.pwh
theorem wf_cl {s : St} (h : Wf s) (v : Int32) : Wf (ucl s v) := ⟨h.1, h.2.1, ⟨placeI_of h.pl rfl rfl rfl rfl rfl h.lf1, h.2.2.1.2.1, h.2.2.1.2.2⟩, h.lf1⟩
noncomputable def clear (s : St) : St := match cB (uu s) 4 with
  | none => s
  | some b => elf (ucl (clb (ucl (fgt s) (nI b)) b 32) (-1))
theorem c_clear {s : St} (hw : Wf s) {ι : Nat → Nat} {d : Int32} {μ : Mem} {post : Mem → Prop} (h : CR μ s ι d (lv s)) (hp : ∀ μ1, CR μ1 (clear s) ι d (lv s) → Fr clS μ μ1 → post μ1) : wC_clearSparsestBlock post μ := by
  have c4 : clS 4 := by unfold clS; omega
  unfold wC_clearSparsestBlock
  refine c_sparse h.pl ?_
  unfold clear at hp
  have hB := cB_is (uu s) 4
  cases hc : cB (uu s) 4 with
  | none =>
    rw [hc] at hp
    exact ⟨fun _ => hp μ h (Fr.refl μ), fun q => absurd rfl q⟩
  | some b =>
    rw [hc] at hp hB
    have hb : b < 4 := hB.1
    have eb : eo (some b) = nI b := rfl
    rw [eb]
    refine ⟨fun q => absurd q (nI_m1 (by omega)), fun _ => c_close h (fun μ3 h3 hF3 => ?_)⟩
    unfold wP_shut
    intro μ4 e4
    subst e4
    have h4 : CR (sI μ3 4 4 (nI b)) (ucl (fgt s) (nI b)) ι d (lv s) := h3.w_cl
    refine ⟨33, c_clear_loop31 (s := ucl (fgt s) (nI b)) (ι := ι) (d := d) (wf_cl (wf_fgt hw) _) hb 32 0 _ (by omega) h4 (fun μ5 h5 hF5 v => ?_)⟩
    intro μ6 e6
    subst e6
    exact c_forgetMoved (s := ucl (clb (ucl (fgt s) (nI b)) b 32) (-1)) h5.w_cl (fun μ7 h7 hF7 => hp μ7 h7 ((((hF3.trans (Fr.sI c4)).trans hF5).trans (Fr.sI c4)).trans hF7))
