/-! A young object lives on, whole: both sides -/
theorem m_survive {s : St} {x : Nat} {L : List (Option Nat)} {μ : Mem} {post : Mem → Prop} (h : MR μ s) (hS : slM μ s L) (hw : Wf s) (hx : sta s x ≠ 0) (hL : L.length + sz s x ≤ 262) (hb : tr s ≤ 1) (hp : ∀ μ1, MR μ1 (sv s x) → slM μ1 (sv s x) (L ++ fL s x (sz s x)) → Fr moS μ μ1 → post μ1) : wM_survive (nI x) post μ := by
  have m19 : moS 19 := by unfold moS; omega
  have m23 : moS 23 := by unfold moS; omega
  have m24 : moS 24 := by unfold moS; omega
  have hlt := hw.lt hx
  have h12 := hw.sz12 hx
  have hwA := wf_svA hw hx
  have hxA : sta (svA s x) x ≠ 0 := by
    show up (sta s) x 2 x ≠ 0
    rw [up_self]
    omega
  have same := shf_same (svA s x) x
  have e2 : sz (sv s x) = sz s := same.2.1
  have e6 : fl (sv s x) = fl s := same.2.2.2.2.2.1
  have e9 : rt (sv s x) = rt s := same.2.2.2.2.2.2.2.2.1
  have go : ∀ t2 : Nat, t2 = (if tr s = 0 then 0 else 2) → wM_survive_31 (nI x) (nI x) (nI t2) post (sI (sI μ 19 x 2) 23 x 1) := by
    intro t2 ht
    unfold wM_survive_31
    rw [nI_clamp (by omega)]
    refine ⟨(nI_vp (by omega)).mpr hlt, ?_⟩
    intro μ5 e5
    subst e5
    have h1 : MR (sI μ 19 x 2) (usta s (up (sta s) x 2)) := h.w_sta (v := 2)
    have h2 : MR (sI (sI μ 19 x 2) 23 x 1) (uct (usta s (up (sta s) x 2)) (up (ct s) x 1)) := h1.w_ct (v := 1)
    have h3 : MR (sI (sI (sI μ 19 x 2) 23 x 1) 24 x (nI t2)) (svA s x) := by
      unfold svA
      rw [← ht]
      exact h2.w_co
    have hF0 : FrK μ (sI (sI (sI μ 19 x 2) 23 x 1) 24 x (nI t2)) := ((frK_sI m19 (by decide) (by omega)).tr (frK_sI m23 (by decide) (by omega))).tr (frK_sI m24 (by decide) (by omega))
    refine m_shift h3 hwA hxA (fun μ6 h6 hF6 => ⟨sz s x + 1, ?_⟩)
    have hF1 := hF0.tr hF6
    have hS1 : slM μ6 (sv s x) L := hS.same hF1.2.2 hF1.2.1 e9 e6
    refine m_sv_loop (s := s) (t := sv s x) (L := L) hlt h12 e2 e6 hL (sz s x) 0 μ6 (by omega) h6 ?_ (fun μ7 h7 hS7 hF7 v => hp μ7 h7 hS7 (hF1.fr.trans hF7))
    have e0 : fL s x 0 = [] := rfl
    rw [e0, List.append_nil]
    exact hS1
  unfold wM_survive
  refine ⟨(nI_vp (by omega)).mpr hlt, ?_⟩
  intro μ2 e2' μ3 e3'
  subst e2'; subst e3'
  rw [nI_clamp (by omega)]
  have pT : mI (sI (sI μ 19 x 2) 23 x 1) 17 27 = nI (tr s) := by
    rw [mI_no (by omega), mI_no (by omega)]
    exact h.ptr
  rw [pT, li_0, nI_eq (by omega) (by omega)]
  refine ⟨fun q => ?_, fun q => ?_⟩
  · exact go 0 (by rw [if_pos q])
  · exact go 2 (by rw [if_neg q])
/-- the class knows no state apart from the count -/
theorem CR.nosta {μ : Mem} {s : St} {ι : Nat → Nat} {d : Int32} {P : Nat → Prop} (h : CR μ s ι d P) (f : Nat → Nat) : CR μ (usta s f) ι d P := by
  have g1 : pg (usta s f) = pg s := rfl
  have g2 : obj (usta s f) = obj s := rfl
  have g3 : ∀ x, itm μ (usta s f) ι x = itm μ s ι x := fun x => rfl
  unfold CR
  rw [g1, g2, q_rt_usta, q_bf_usta, q_row_usta, q_log_usta, q_tr_usta, q_ps_usta, q_mv_usta, q_wh_usta]
  simp only [g3]
  exact h
theorem c_survive {s : St} {x : Nat} {L : List (Option Nat)} {ι : Nat → Nat} {d : Int32} {μ : Mem} {l1 l2 : Int32} {k8 : Int32 → Int32 → Mem → Prop} (h : CR μ s ι d (lv s)) (hS : ringR μ ι 15 L) (hw : Wf s) (hx : sta s x ≠ 0) (hf : ∀ i y, i < sz s x → fl s x i = some y → sta s y ≠ 0) (hL : L.length + sz s x ≤ 262)
    (hp : ∀ μ1, CR μ1 (sv s x) ι d (lv s) → ringR μ1 ι 15 (L ++ fL s x (sz s x)) → Fr clS μ μ1 → k8 l1 (l2 + 1) μ1) : wC_countSlots_82 l1 l2 (ι x) (ι x) (nI (if tr s = 0 then 0 else 2)) k8 μ := by
  have hi := h.it x hx
  have h35 := hi.i35
  have h12 := hw.sz12 hx
  have hwA := wf_svA hw hx
  have hxA : sta (svA s x) x ≠ 0 := by
    show up (sta s) x 2 x ≠ 0
    rw [up_self]
    omega
  have same := shf_same (svA s x) x
  have e2 : sz (sv s x) = sz s := same.2.1
  have e6 : fl (sv s x) = fl s := same.2.2.2.2.2.1
  have cx : cmS (ι x) := Or.inr h35
  unfold wC_countSlots_82 wI_growOld
  refine ⟨hi.o, hi.o, ?_⟩
  intro μ2 e2' μ3 e3'
  subst e2'; subst e3'
  have h1 : CR (sI μ (ι x) 5 1) (uct s (up (ct s) x 1)) ι d (lv s) := h.w_ct (v := 1) hx
  have h2 : CR (sI (sI μ (ι x) 5 1) (ι x) 6 (nI (if tr s = 0 then 0 else 2))) (svA s x) ι d (lv s) := by
    have h2' := (h1.w_co (x := x) (v := if tr s = 0 then 0 else 2) hx).nosta (up (sta s) x 2)
    exact h2'.ext (by simp only [eqS, svA, q_cel_usta, q_sta_usta, q_ad_usta, q_sz_usta, q_tg_usta, q_ct_usta, q_co_usta, q_fl_usta, q_lg_usta, q_nx_usta, q_rt_usta, q_bf_usta, q_hf_usta, q_he_usta, q_hc_usta, q_ov_usta, q_oc_usta, q_cl_usta, q_lf_usta, q_row_usta, q_log_usta, q_tr_usta, q_ps_usta, q_mv_usta, q_wh_usta, q_cel_uct, q_sta_uct, q_ad_uct, q_sz_uct, q_tg_uct, q_ct_uct, q_co_uct, q_fl_uct, q_lg_uct, q_nx_uct, q_rt_uct, q_bf_uct, q_hf_uct, q_he_uct, q_hc_uct, q_ov_uct, q_oc_uct, q_cl_uct, q_lf_uct, q_row_uct, q_log_uct, q_tr_uct, q_ps_uct, q_mv_uct, q_wh_uct, q_cel_uco, q_sta_uco, q_ad_uco, q_sz_uco, q_tg_uco, q_ct_uco, q_co_uco, q_fl_uco, q_lg_uco, q_nx_uco, q_rt_uco, q_bf_uco, q_hf_uco, q_he_uco, q_hc_uco, q_ov_uco, q_oc_uco, q_cl_uco, q_lf_uco, q_row_uco, q_log_uco, q_tr_uco, q_ps_uco, q_mv_uco, q_wh_uco, and_self])
  have hF0 : Fr cmS μ (sI (sI μ (ι x) 5 1) (ι x) 6 (nI (if tr s = 0 then 0 else 2))) := (Fr.sI cx).trans (Fr.sI cx)
  refine ⟨(h2.it x hx).o, c_shift h2 hwA hxA hx (fun μ1 h3 hF1 => ?_)⟩
  have hF2 := hF0.trans hF1
  have hS1 : ringR μ1 ι 15 L := hS.frame (hF2.2.2 15 (by unfold cmS; omega)).1 (hF2.2.2 16 (by unfold cmS; omega)).2
  have hi3 := h3.it x hx
  have p1 : mL μ1 (ι x + 1) = sz s x := by rw [← e2]; exact hi3.l1
  unfold wC_addFieldsToSlots
  refine ⟨hi3.o, hi3.o1, sz s x + 1, ?_⟩
  rw [p1]
  refine c_sv_loop (s := s) (t := sv s x) (L := L) (d := d) (P := lv s) hx h12 e2 e6 hf hL (sz s x) 0 μ1 (by omega) h3 ?_ (fun μ4 h4 hS4 hF4 v => hp μ4 h4 hS4 ((hF2.mono cm_cl).trans hF4))
  have e0 : fL s x 0 = [] := rfl
  rw [e0, List.append_nil]
  exact hS1
