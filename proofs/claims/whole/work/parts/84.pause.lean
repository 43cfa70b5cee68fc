/-! A pause: both sides -/
theorem cr_ps {μ : Mem} {s : St} {ι : Nat → Nat} {d d' : Int32} {P : Nat → Prop} (h : CR μ s ι d P) : CR (sI μ 0 8 (ps s + d')) s ι d' P := by
  have f : ∀ r, r ≠ 0 → mI (sI μ 0 8 (ps s + d')) r = mI μ r := fun r hr => mI_ne hr
  refine ⟨(Fr.sI (S := fun r => r = 0) rfl).Lay h.lay, fun x hx => ?_, h.inj, h.pat, h.prt, h.pbf, h.pl.frame (fun r hr => f r (by omega)), h.wt.frame (f 13 (by omega)) rfl, h.plo.frame (f 9 (by omega)) rfl (f 11 (by omega)) rfl, (mI_no (by decide)).trans h.ptr, mI_sI_self _ _ _ _, (mI_no (by decide)).trans h.pmv, (mI_no (by decide)).trans h.pwh⟩
  have hi := h.it x hx
  have h35 := hi.i35
  exact hi.frame (S := fun r => r = 0) (Fr.sI rfl) (f _ (by omega)) rfl (f _ (by omega)) rfl rfl rfl rfl rfl rfl rfl
theorem cr_done {μ : Mem} {s : St} {ι : Nat → Nat} {P : Nat → Prop} (h : CR μ s ι 1 P) : CR μ (ups s (ps s + 1)) ι 0 P := by
  refine ⟨h.lay, h.it, h.inj, h.pat, h.prt, h.pbf, h.pl, h.wt, h.plo, h.ptr, ?_, h.pmv, h.pwh⟩
  rw [h.pps]
  exact (Int32.add_zero _).symm
/-- what the middle of a pause needs -/
theorem pz_mid {s : St} (h : Inv s (bf s)) (hrow : row s = []) : (∃ Hb S, CJ0 s Hb S ∧ CJe s Hb S s (slt s) (slt s).length) ∧ csE 262 s (slt s) ∧ lgOK s ∧ (Wf (csN 262 s (slt s) 0).1 ∧ Bd (csN 262 s (slt s) 0).1 ∧ Ag (csN 262 s (slt s) 0).1) ∧ (Wf (cse s) ∧ Bd (cse s) ∧ Ag (cse s)) ∧ lgOK (cse s) ∧ (∀ r x, r < 6 → bf (cse s) r = some x → sta (cse s) x ≠ 0) ∧ (row (cse s)).length + 6 + (log (cse s)).length ≤ 262 := by
  obtain ⟨g, S, T, h0, hL, hC, hS, hT⟩ := h
  obtain ⟨hJ0, hJ, hb262, hl128⟩ := cj_start h0 hL hC hS hT hrow
  obtain ⟨hE, done, hJe⟩ := cj_end hJ0 262 s [] (slt s) 0 hJ hb262
  obtain ⟨-, hwc, hsame, k0, k1, k2, k3, -⟩ := cse_is h0 hL hC hS hT hrow
  obtain ⟨e1, e2, e3, e4, e5, e6, e7, e8, e9⟩ := hsame
  have old_log : ∀ (k x i : Nat) (o : Option Nat), (log s)[k]? = some (x, i, o) → S x ∧ i < sz s x ∧ o = g x i := by
    intro k x i o hk
    have := hL.2.1 x i o (List.mem_of_getElem? hk)
    exact ⟨this.1, this.2.1, this.2.2.2⟩
  refine ⟨⟨_, S, hJ0, [], rfl, hJ⟩, hE, ⟨hl128, fun k x i o hk => ?_, fun k x i y hk => ?_⟩, hJe.1, hwc, ⟨by rw [e7]; exact hl128, fun k x i o hk => ?_, fun k x i y hk => ?_⟩, fun r x hr hx => ?_, ?_⟩
  · obtain ⟨q1, q2, -⟩ := old_log k x i o hk
    have := hS.1 x q1
    exact ⟨by omega, q2⟩
  · obtain ⟨q1, q2, q3⟩ := old_log k x i _ hk
    have := hS.1 y (hS.2.2.1 x i y q1 q2 q3.symm)
    omega
  · rw [e7] at hk
    rw [e1]
    obtain ⟨q1, q2, -⟩ := old_log k x i o hk
    have := k2 x (hS.1 x q1)
    exact ⟨by omega, q2⟩
  · rw [e7] at hk
    obtain ⟨q1, q2, q3⟩ := old_log k x i _ hk
    have := k2 y (hS.1 y (hS.2.2.1 x i y q1 q2 q3.symm))
    omega
  · rw [e5] at hx
    have := k2 x (hS.1 x (hS.2.1 r x hr hx))
    omega
  · rw [e6, e7, hrow]
    show 0 + 6 + (log s).length ≤ 262
    omega
theorem m_stl {s : St} (h : Inv s (bf s)) (hrow : row s = []) {μ : Mem} {post : Int32 → Mem → Prop} (hM : MR μ s) (hp : ∀ μ1, MR μ1 (stl s) → Fr moS μ μ1 → post (nI (csN 262 s (slt s) 0).2) μ1) : wM_countSlots (fun r4 μ3 => wM_endStep (fun μ5 => wM_settle (fun μ6 => post r4 μ6) μ5) μ3) μ := by
  obtain ⟨⟨Hb, S, hJ0, hJ⟩, hE, hlg, ⟨hw1, hb1, ha1⟩, ⟨hw2, hb2, ha2⟩, hlg2, hbf2, hlen2⟩ := pz_mid h hrow
  refine m_countSlots (cj_J hJ0) hM h.wf hlg hJ hE (fun μ3 h3 hF3 => m_endStep h3 (fun μ5 h5 hF5 => ?_))
  exact m_settle h5 (wf_elf hw1) hb1 hb2 hlg2 hbf2 hlen2 (fun μ6 h6 hF6 => hp μ6 h6 ((hF3.trans hF5).trans hF6))
theorem c_stl {s : St} (h : Inv s (bf s)) (hrow : row s = []) {ι : Nat → Nat} {d : Int32} {μ : Mem} {post : Int32 → Mem → Prop} (hM : CR μ s ι d (lv s)) (hp : ∀ μ1, CR μ1 (stl s) ι d (lv (stl s)) → Fr clS μ μ1 → post (nI (csN 262 s (slt s) 0).2) μ1) : wC_countSlots (fun r5 μ4 => wC_loseYoung (fun μ6 => wC_queueRootsAndLog (fun μ7 => post r5 μ7) μ6) μ4) μ := by
  obtain ⟨⟨Hb, S, hJ0, hJ⟩, hE, hlg, ⟨hw1, hb1, ha1⟩, ⟨hw2, hb2, ha2⟩, hlg2, hbf2, hlen2⟩ := pz_mid h hrow
  obtain ⟨-, -, -, -, -, hrt, hf⟩ := inv_facts h
  refine c_countSlots (cj_J hJ0) hM h.wf hlg hrt hf hJ hE (fun μ4 h4 hF4 => ?_)
  refine c_loseYoung (s := elf (csN 262 s (slt s) 0).1) h4 (wf_elf hw1) hb1 ha1 (fun μ6 h6 hF6 => ?_)
  exact c_queue (s := cse s) h6 hw2 hb2 ha2 hlg2 hbf2 hlen2 (fun μ7 h7 hF7 => hp μ7 h7 ((hF4.trans hF6).trans hF7))
theorem m_h103 {s : St} {l2 : Int32} {μ : Mem} {post : Int32 → Mem → Prop} (hM : MR μ s) (hp : ∀ μ1, MR μ1 (pzE s) → Fr moS μ μ1 → post l2 μ1) : wM_halt_103 l2 post μ := by
  have m17 : moS 17 := by unfold moS; omega
  unfold wM_halt_103
  refine m_forget hM (fun μ7 h7 hF7 => ?_)
  intro μ8 e8
  subst e8
  rw [show mI μ7 17 28 = ps s from h7.pps]
  have h8 : MR (sI μ7 17 28 (ps s + 1)) (ups (fgt s) (ps s + 1)) := h7.w_ps
  refine ⟨7, m_rem_loop (s := ups (fgt s) (ps s + 1)) 6 0 _ (by omega) ?_ (fun μ1 h1 hF v => hp μ1 h1 ((hF7.trans (Fr.sI m17)).trans hF))⟩
  rw [bfk_0]
  exact h8.ext (by simp only [eqS, q_cel_ubf, q_sta_ubf, q_ad_ubf, q_sz_ubf, q_tg_ubf, q_ct_ubf, q_co_ubf, q_fl_ubf, q_lg_ubf, q_nx_ubf, q_rt_ubf, q_bf_ubf, q_hf_ubf, q_he_ubf, q_hc_ubf, q_ov_ubf, q_oc_ubf, q_cl_ubf, q_lf_ubf, q_row_ubf, q_log_ubf, q_tr_ubf, q_ps_ubf, q_mv_ubf, q_wh_ubf, and_self])
theorem m_h52 {s : St} {a1 l2 : Int32} {b : Bool} (hb : b = true ↔ ¬ a1 = 0) (hI : InvR s) {μ : Mem} {post : Int32 → Mem → Prop} (hM : MR μ s) (hp : ∀ μ1, MR μ1 (pzE (pzD b s)) → Fr moS μ μ1 → post l2 μ1) : wM_halt_52 a1 l2 post μ := by
  have m17 : moS 17 := by unfold moS; omega
  obtain ⟨hw, hbd, ha, -, -, hrt, -⟩ := inv_facts hI.1
  have htr := hbd.2.2.2
  unfold wM_halt_52
  rw [hM.ptr, li_0, nI_eq (by omega) (by omega)]
  unfold pzD at hp
  refine ⟨fun q => ?_, fun q => ⟨fun w => ?_, fun w => ?_⟩⟩
  · rw [if_neg (fun z => hb.mp z.1 q)] at hp
    exact m_h103 hM hp
  · rw [if_pos ⟨hb.mpr q, w⟩] at hp
    intro μ14 e14
    subst e14
    have h0 : ∀ r x, r < 6 → rt s r = some x → x < 256 ∧ sta s x = 2 ∧ co s x = 0 := by
      intro r x hr hx
      have hl := hrt r x hr hx
      have h2 := hI.2.1 x hl
      refine ⟨hw.lt hl, h2, ?_⟩
      obtain ⟨g, S, T, -, -, -, -, hT⟩ := hI.1
      exact hT.1 w x h2
    have h1 : MR (sI μ 17 27 (nI 1)) (utr s 1) := hM.w_tr
    refine ⟨7, m_bgn_loop h0 6 0 _ (by omega) ?_ (fun μ2 h2 hF2 v => m_h103 h2 (fun μ3 h3 hF3 => hp μ3 h3 (((Fr.sI m17).trans hF2).trans hF3)))⟩
    have e0 : rts s 0 = [] := rfl
    rw [e0, grl_nil]
    exact h1.ext (by simp only [eqS, q_cel_uco, q_sta_uco, q_ad_uco, q_sz_uco, q_tg_uco, q_ct_uco, q_co_uco, q_fl_uco, q_lg_uco, q_nx_uco, q_rt_uco, q_bf_uco, q_hf_uco, q_he_uco, q_hc_uco, q_ov_uco, q_oc_uco, q_cl_uco, q_lf_uco, q_row_uco, q_log_uco, q_tr_uco, q_ps_uco, q_mv_uco, q_wh_uco, q_cel_utr, q_sta_utr, q_ad_utr, q_sz_utr, q_tg_utr, q_ct_utr, q_co_utr, q_fl_utr, q_lg_utr, q_nx_utr, q_rt_utr, q_bf_utr, q_hf_utr, q_he_utr, q_hc_utr, q_ov_utr, q_oc_utr, q_cl_utr, q_lf_utr, q_row_utr, q_log_utr, q_tr_utr, q_ps_utr, q_mv_utr, q_wh_utr, and_self])
  · rw [if_neg (fun z => w z.2)] at hp
    exact m_h103 hM hp
theorem m_halt {s : St} {a1 : Int32} {b : Bool} (hb : b = true ↔ ¬ a1 = 0) (h : Ok s) {μ : Mem} {post : Int32 → Mem → Prop} (hM : MR μ s) (hp : ∀ μ1, MR μ1 (pz b s) → Fr moS μ μ1 → post (nI (grown s)) μ1) : wM_halt a1 post μ := by
  have m17 : moS 17 := by unfold moS; omega
  obtain ⟨hA1, hA2, hA3, hA4⟩ := ok_pzA h
  obtain ⟨hB1, hB2, hB3⟩ := ok_pzB hA2 hA3 hA4
  obtain ⟨hC1, hC2⟩ := ok_pzC hB1 hB2 hB3
  obtain ⟨hw, hbd, ha, -, -, -, hf⟩ := inv_facts hB1.inv
  have htr := hbd.2.2.2
  unfold wM_halt wM_drainAll
  refine ⟨263, m_drainAll_loop (I := fun t => Inv t (bf s)) inv_drI 262 s μ h.1 (dr_262 h.1) hM (fun μ1 h1 hF1 => ?_)⟩
  refine m_forget h1 (fun μ2 h2 hF2 => m_stl (s := pzA s) hA2 hA4 h2 (fun μ6 h6 hF6 => ?_))
  have hF := (hF1.trans hF2).trans hF6
  have h6' : MR μ6 (pzB s) := h6
  have hp' : ∀ μ1, MR μ1 (pzE (pzD b (pzC (pzB s)))) → Fr moS μ6 μ1 → post (nI (csN 262 (pzA s) (slt (pzA s)) 0).2) μ1 := fun μ1 h1 hF1 => hp μ1 h1 (hF.trans hF1)
  change InvT (pzB s) (rt (pzB s)) at hB1
  change NY (pzB s) at hB2
  change IZ (pzB s) at hB3
  change InvR (pzC (pzB s)) at hC1
  change Wf (pzB s) at hw
  change Bd (pzB s) at hbd
  change ∀ x i y, sta (pzB s) x ≠ 0 → i < sz (pzB s) x → fl (pzB s) x i = some y → sta (pzB s) y ≠ 0 at hf
  change tr (pzB s) ≤ 1 at htr
  generalize pzB s = t at *
  generalize nI (csN 262 (pzA s) (slt (pzA s)) 0).2 = l2 at *
  rw [h6'.ptr, li_0, nI_eq (by omega) (by omega)]
  refine ⟨fun q => ?_, fun q => ?_⟩
  · have e : pzC t = t := if_neg (fun z => z.1 q)
    rw [e] at hp' hC1
    exact m_h52 hb hC1 h6' hp'
  · have hg := gN_le t
    refine m_greys h6' hbd ?_
    rw [nI_eq (by omega) (by omega)]
    refine ⟨fun w => ?_, fun w => ?_⟩
    · have e : pzC t = endT t := if_pos ⟨q, w⟩
      rw [e] at hp' hC1
      obtain ⟨r1, r2, r3, -, -⟩ := inv_endT hB1 hB2 hB3 q w
      have hlen := (inv_facts r1.1).2.2.2.1
      have e_row : row (swp t) = row t ++ wfs t 128 := rfl
      rw [e_row, List.length_append] at hlen
      refine m_sweep h6' hw hbd hf (by omega) (fun μ23 h23 hF23 => m_countAnew r1 h23 (fun μ24 h24 hF24 => ?_))
      have hwh : Wf (wht (rcN (swp t) 128)) := by
        have := r2.1.wf
        generalize rcN (swp t) 128 = u at *
        exact this.ext rfl (fun _ => Iff.rfl) rfl rfl rfl rfl
      refine m_clear hwh h24 (fun μ25 h25 hF25 => ?_)
      intro μ26 e26
      subst e26
      have h26 : MR (sI μ25 17 27 (nI 0)) (endT t) := h25.w_tr
      exact m_h52 hb hC1 h26 (fun μ1 h1 hF1 => hp' μ1 h1 ((((hF23.trans hF24).trans hF25).trans (Fr.sI m17)).trans hF1))
    · have e : pzC t = t := if_neg (fun z => w z.2)
      rw [e] at hp' hC1
      exact m_h52 hb hC1 h6' hp'
theorem lv_wht (u : St) : lv (wht u) = lv u := rfl
theorem drN_mil {s : St} {β : Nat → Option Nat} (h : Inv s β) {n : Nat} (hn : 262 ≤ n) : drN n s = drN 262 s := drN_more s n (dr_262 h) hn
theorem c_drainMany {s : St} {β : Nat → Option Nat} (h : Inv s β) {ι : Nat → Nat} {d : Int32} {μ : Mem} {post : Mem → Prop} (hM : CR μ s ι d (lv s)) (hp : ∀ μ1, CR μ1 (drN 262 s) ι d (lv (drN 262 s)) → Fr clS μ μ1 → post μ1) : wC_drainUpTo 1000000 post μ := by
  unfold wC_drainUpTo
  refine ⟨263, c_drain_loop (I := fun t => Inv t β) inv_drI (N := 1000000) (by omega) (ι := ι) (d := d) 262 0 s μ h (dr_262 h) (by omega) hM (fun μ1 h1 hF v => hp μ1 ?_ hF)⟩
  rw [Nat.sub_zero, drN_mil h (by omega)] at h1
  exact h1
theorem c_p71 {s : St} {a1 l2 : Int32} {b : Bool} (hb : b = true ↔ ¬ a1 = 0) (hI : InvR s) {ι : Nat → Nat} {μ : Mem} {post : Int32 → Mem → Prop} (hM : CR μ s ι 1 (lv s)) (hp : ∀ μ1, CR μ1 (pzE (pzD b s)) ι 0 (lv (pzE (pzD b s))) → Fr clS μ μ1 → post l2 μ1) : wC_pause_71 a1 l2 post μ := by
  obtain ⟨hw, hbd, ha, -, -, hrt, -⟩ := inv_facts hI.1
  have htr := hbd.2.2.2
  have fin : ∀ t μ2, lv t = lv s → rt t = rt s → CR μ2 t ι 1 (lv t) → (∀ μ1, CR μ1 (pzE t) ι 0 (lv (pzE t)) → Fr clS μ2 μ1 → post l2 μ1) → wP_close (fun μ8 => wC_rememberRoots (fun μ9 => post l2 μ9) μ8) μ2 := by
    intro t μ2 el er h2 hp2
    refine c_close h2 (fun μ8 h8 hF8 => ?_)
    have h9 := cr_done h8
    refine c_rem (s := ups (fgt t) (ps (fgt t) + 1)) h9 (fun r x hr hx => ?_) (fun μ9 h10 hF9 => hp2 μ9 h10 (hF8.trans hF9))
    rw [el]
    have hx' : rt t r = some x := hx
    rw [er] at hx'
    exact hrt r x hr hx'
  unfold wC_pause_71
  rw [hM.ptr, li_0, nI_eq (by omega) (by omega)]
  unfold pzD at hp
  refine ⟨fun q => ?_, fun q => ⟨fun w => ?_, fun w => ?_⟩⟩
  · rw [if_neg (fun z => hb.mp z.1 q)] at hp
    exact fin s μ rfl rfl hM hp
  · rw [if_pos ⟨hb.mpr q, w⟩] at hp
    refine c_bgn hM hbd ha hrt (fun μ2 h2 hF2 => ?_)
    exact fin (bgn s) μ2 rfl rfl h2 (fun μ1 h1 hF1 => hp μ1 h1 (hF2.trans hF1))
  · rw [if_neg (fun z => w z.2)] at hp
    exact fin s μ rfl rfl hM hp
theorem c_pause {s : St} {a1 : Int32} {b : Bool} (hb : b = true ↔ ¬ a1 = 0) (h : Ok s) {ι : Nat → Nat} {μ : Mem} {post : Int32 → Mem → Prop} (hM : CR μ s ι 0 (lv s)) (hp : ∀ μ1, CR μ1 (pz b s) ι 0 (lv (pz b s)) → Fr clS μ μ1 → post (nI (grown s)) μ1) : wC_pause a1 post μ := by
  have c0 : clS 0 := by unfold clS; omega
  obtain ⟨hA1, hA2, hA3, hA4⟩ := ok_pzA h
  obtain ⟨hB1, hB2, hB3⟩ := ok_pzB hA2 hA3 hA4
  obtain ⟨hC1, hC2⟩ := ok_pzC hB1 hB2 hB3
  obtain ⟨hw, hbd, ha, -, -, -, hf⟩ := inv_facts hB1.inv
  have htr := hbd.2.2.2
  unfold wC_pause
  intro μ1 e1
  subst e1
  rw [hM.pps, show ps s + 0 + 1 = ps s + 1 by rw [Int32.add_zero]]
  refine c_drainMany h.1 (cr_ps (d' := 1) hM) (fun μ2 h2 hF2 => c_close h2 (fun μ3 h3 hF3 => ?_))
  refine c_stl (s := pzA s) hA2 hA4 h3 (fun μ7 h7 hF7 => ?_)
  have hF := (((Fr.sI c0).trans hF2).trans hF3).trans hF7
  have h7' : CR μ7 (pzB s) ι 1 (lv (pzB s)) := h7
  have hp' : ∀ μ1, CR μ1 (pzE (pzD b (pzC (pzB s)))) ι 0 (lv (pzE (pzD b (pzC (pzB s))))) → Fr clS μ7 μ1 → post (nI (csN 262 (pzA s) (slt (pzA s)) 0).2) μ1 := fun μ1 h1 hF1 => hp μ1 h1 (hF.trans hF1)
  change InvT (pzB s) (rt (pzB s)) at hB1
  change NY (pzB s) at hB2
  change IZ (pzB s) at hB3
  change InvR (pzC (pzB s)) at hC1
  change Wf (pzB s) at hw
  change Bd (pzB s) at hbd
  change Ag (pzB s) at ha
  change ∀ x i y, sta (pzB s) x ≠ 0 → i < sz (pzB s) x → fl (pzB s) x i = some y → sta (pzB s) y ≠ 0 at hf
  change tr (pzB s) ≤ 1 at htr
  generalize pzB s = t at *
  generalize nI (csN 262 (pzA s) (slt (pzA s)) 0).2 = l2 at *
  rw [h7'.ptr, li_0, nI_eq (by omega) (by omega)]
  refine ⟨fun q => ?_, fun q => ?_⟩
  · have e : pzC t = t := if_neg (fun z => z.1 q)
    rw [e] at hp' hC1
    exact c_p71 hb hC1 h7' hp'
  · have hg := gN_le t
    refine c_countGrey h7' hw hbd ha ?_
    rw [nI_eq (by omega) (by omega)]
    refine ⟨fun w => ?_, fun w => ?_⟩
    · have e : pzC t = endT t := if_pos ⟨q, w⟩
      rw [e] at hp' hC1
      obtain ⟨r1, r2, r3, -, -⟩ := inv_endT hB1 hB2 hB3 q w
      have hlen := (inv_facts r1.1).2.2.2.1
      have e_row : row (swp t) = row t ++ wfs t 128 := rfl
      rw [e_row, List.length_append] at hlen
      refine c_loseWhite h7' hw hbd ha hf (by omega) (fun μ17 h17 hF17 => c_recount r1 h17 (fun μ18 h18 hF18 => ?_))
      have hwr := r2.1.wf
      refine c_whiten hwr h18 (fun μ19 h19 hF19 => ?_)
      have hwh : Wf (wht (rcN (swp t) 128)) := by
        generalize rcN (swp t) 128 = u at *
        exact hwr.ext rfl (fun _ => Iff.rfl) rfl rfl rfl rfl
      have h19' : CR μ19 (wht (rcN (swp t) 128)) ι 1 (lv (wht (rcN (swp t) 128))) := by rw [lv_wht]; exact h19
      refine c_clear hwh h19' (fun μ20 h20 hF20 => ?_)
      intro μ21 e21
      subst e21
      have h21 : CR (sI μ20 0 7 (nI 0)) (endT t) ι 1 (lv (wht (rcN (swp t) 128))) := h20.w_tr
      have el : lv (endT t) = lv (wht (rcN (swp t) 128)) := by
        funext x
        have : sta (endT t) = sta (wht (rcN (swp t) 128)) := (clear_same _).1
        unfold lv
        rw [this]
      rw [← el] at h21
      exact c_p71 hb hC1 h21 (fun μ1 h1 hF1 => hp' μ1 h1 (((((hF17.trans hF18).trans hF19).trans hF20).trans (Fr.sI c0)).trans hF1))
    · have e : pzC t = t := if_neg (fun z => w z.2)
      rw [e] at hp' hC1
      exact c_p71 hb hC1 h7' hp'
