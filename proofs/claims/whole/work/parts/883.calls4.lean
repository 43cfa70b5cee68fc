/-! figure, drain, trace, pause -/
theorem pick {k : Int32} {P : Nat → Prop} {D : Prop} {j : Nat} (hj : j ≤ 8) (e : k = nI j) (h : P j) : (k = 0 → P 0) ∧ (k = 1 → P 1) ∧ (k = 2 → P 2) ∧ (k = 3 → P 3) ∧ (k = 4 → P 4) ∧ (k = 5 → P 5) ∧ (k = 6 → P 6) ∧ (k = 7 → P 7) ∧ (k = 8 → P 8) ∧ (¬ k = 0 → ¬ k = 1 → ¬ k = 2 → ¬ k = 3 → ¬ k = 4 → ¬ k = 5 → ¬ k = 6 → ¬ k = 7 → ¬ k = 8 → D) := by
  have key : ∀ m, m ≤ 8 → k = nI m → P m := by
    intro m hm q
    rw [e, nI_eq (by omega) (by omega)] at q
    subst q
    exact h
  refine ⟨fun q => key 0 (by omega) q, fun q => key 1 (by omega) q, fun q => key 2 (by omega) q, fun q => key 3 (by omega) q, fun q => key 4 (by omega) q, fun q => key 5 (by omega) q, fun q => key 6 (by omega) q, fun q => key 7 (by omega) q, fun q => key 8 (by omega) q, fun q0 q1 q2 q3 q4 q5 q6 q7 q8 => ?_⟩
  exfalso
  have : j = 0 ∨ j = 1 ∨ j = 2 ∨ j = 3 ∨ j = 4 ∨ j = 5 ∨ j = 6 ∨ j = 7 ∨ j = 8 := by omega
  rcases this with w | w | w | w | w | w | w | w | w
  · subst w; exact q0 e
  · subst w; exact q1 e
  · subst w; exact q2 e
  · subst w; exact q3 e
  · subst w; exact q4 e
  · subst w; exact q5 e
  · subst w; exact q6 e
  · subst w; exact q7 e
  · subst w; exact q8 e
theorem pickN {k : Int32} {P : Nat → Prop} {D : Prop} (hb : k < 0 ∨ (¬ k < 0 ∧ 8 < k)) (h : D) : (k = 0 → P 0) ∧ (k = 1 → P 1) ∧ (k = 2 → P 2) ∧ (k = 3 → P 3) ∧ (k = 4 → P 4) ∧ (k = 5 → P 5) ∧ (k = 6 → P 6) ∧ (k = 7 → P 7) ∧ (k = 8 → P 8) ∧ (¬ k = 0 → ¬ k = 1 → ¬ k = 2 → ¬ k = 3 → ¬ k = 4 → ¬ k = 5 → ¬ k = 6 → ¬ k = 7 → ¬ k = 8 → D) :=
  ⟨fun q => absurd q (fig_bad hb 0 (by omega)), fun q => absurd q (fig_bad hb 1 (by omega)), fun q => absurd q (fig_bad hb 2 (by omega)), fun q => absurd q (fig_bad hb 3 (by omega)), fun q => absurd q (fig_bad hb 4 (by omega)), fun q => absurd q (fig_bad hb 5 (by omega)), fun q => absurd q (fig_bad hb 6 (by omega)), fun q => absurd q (fig_bad hb 7 (by omega)), fun q => absurd q (fig_bad hb 8 (by omega)), fun _ _ _ _ _ _ _ _ _ => h⟩
def fv (s : St) (j : Nat) : Int32 := match j with
  | 0 => nI (cntS s 1 256)
  | 1 => nI (cntS s 2 256)
  | 2 => nI (row s).length
  | 3 => nI (log s).length
  | 4 => ps s
  | 5 => if tr s = 0 then 0 else 1
  | 6 => mv s
  | 7 => wh s
  | _ => nI (gN s)
def fC (μ : Mem) (Q : Int32 → Mem → Prop) (j : Nat) : Prop := match j with
  | 0 => wC_countItems (fun r2 μ1 => Q r2 μ1) μ
  | 1 => wC_countYoung (fun r4 μ3 => Q r4 μ3) μ
  | 2 => Q (mI μ 13 2) μ
  | 3 => Q (mI μ 9 3) μ
  | 4 => Q (mI μ 0 8) μ
  | 5 => (((mI μ 0 7) = 0 → Q 0 μ) ∧ (¬ (mI μ 0 7) = 0 → Q 1 μ))
  | 6 => Q (mI μ 0 9) μ
  | 7 => Q (mI μ 0 10) μ
  | _ => wC_countGrey (fun r6 μ5 => Q r6 μ5) μ
def fM (μ1 : Mem) (Q : Int32 → Mem → Prop) (j : Nat) : Prop := match j with
  | 0 => wM_objects 1 (fun r3 μ2 => Q r3 μ2) μ1
  | 1 => wM_objects 2 (fun r5 μ4 => Q r5 μ4) μ1
  | 2 => Q (mI μ1 17 21) μ1
  | 3 => Q (mI μ1 17 24) μ1
  | 4 => Q (mI μ1 17 28) μ1
  | 5 => (((mI μ1 17 27) = 0 → Q 0 μ1) ∧ (¬ (mI μ1 17 27) = 0 → Q 1 μ1))
  | 6 => Q (mI μ1 17 29) μ1
  | 7 => Q (mI μ1 17 30) μ1
  | _ => wM_greys (fun r7 μ6 => Q r7 μ6) μ1
theorem cnt_1 {s : St} (hw : Wf s) (hb : Bd s) : sm (wAt s (fun _ => 1)) 128 = cntS s 1 256 := by
  rw [sum_at hw]
  refine sm_congr (fun x _ => ?_)
  unfold wLv
  have := hb.1 x
  by_cases e : sta s x = 0
  · rw [if_pos e, if_neg (by omega)]
  · rw [if_neg e, if_pos (by omega)]
theorem cnt_2 {s : St} (hw : Wf s) (hb : Bd s) (ha : Ag s) : sm (wAt s (wY s)) 128 = cntS s 2 256 := by
  rw [sum_at hw]
  refine sm_congr (fun x _ => ?_)
  unfold wLv wY
  have := hb.1 x
  by_cases e : sta s x = 0
  · rw [if_pos e, if_neg (by omega)]
  · rw [if_neg e]
    rcases ha x e with ⟨w1, w2, w3⟩ | ⟨w1, w2⟩
    · rw [if_pos w2, if_pos (Or.inl w1)]
    · rw [if_neg (by omega), if_neg (by omega)]
theorem c_fig {μ : Mem} {s : St} {ι : Nat → Nat} {Q : Int32 → Mem → Prop} {j : Nat} (h : CR μ s ι 0 (lv s)) (hw : Wf s) (hb : Bd s) (ha : Ag s) (hj : j ≤ 8) (hQ : Q (fv s j) μ) : fC μ Q j := by
  have htr := hb.2.2.2
  have : j = 0 ∨ j = 1 ∨ j = 2 ∨ j = 3 ∨ j = 4 ∨ j = 5 ∨ j = 6 ∨ j = 7 ∨ j = 8 := by omega
  rcases this with w | w | w | w | w | w | w | w | w
  · subst w
    refine ⟨129, c_countItems_loop h 128 0 (by omega) (fun v => ?_)⟩
    rw [cnt_1 hw hb]
    exact hQ
  · subst w
    refine ⟨129, c_countYoung_loop h hw hb 128 0 (by omega) (fun v => ?_)⟩
    rw [cnt_2 hw hb ha]
    exact hQ
  · subst w
    obtain ⟨f, -, -, e2, -, -⟩ := h.wt
    show Q (mI μ 13 2) μ
    rw [e2, List.length_map]
    exact hQ
  · subst w
    show Q (mI μ 9 3) μ
    rw [h.logN]
    exact hQ
  · subst w
    show Q (mI μ 0 8) μ
    rw [h.pps, Int32.add_zero]
    exact hQ
  · subst w
    show ((mI μ 0 7) = 0 → Q 0 μ) ∧ (¬ (mI μ 0 7) = 0 → Q 1 μ)
    rw [h.ptr, li_0, nI_eq (by omega) (by omega)]
    have hQ' : Q (if tr s = 0 then 0 else 1) μ := hQ
    refine ⟨fun q => ?_, fun q => ?_⟩
    · rw [if_pos q] at hQ'; exact hQ'
    · rw [if_neg q] at hQ'; exact hQ'
  · subst w
    show Q (mI μ 0 9) μ
    rw [h.pmv]
    exact hQ
  · subst w
    show Q (mI μ 0 10) μ
    rw [h.pwh]
    exact hQ
  · subst w
    exact c_countGrey h hw hb ha hQ
theorem m_fig {μ : Mem} {s : St} {Q : Int32 → Mem → Prop} {j : Nat} (h : MR μ s) (hb : Bd s) (hj : j ≤ 8) (hQ : Q (fv s j) μ) : fM μ Q j := by
  have htr := hb.2.2.2
  have : j = 0 ∨ j = 1 ∨ j = 2 ∨ j = 3 ∨ j = 4 ∨ j = 5 ∨ j = 6 ∨ j = 7 ∨ j = 8 := by omega
  rcases this with w | w | w | w | w | w | w | w | w
  · subst w
    exact ⟨257, m_objs h hb (L := 1) (by omega) 256 0 (by omega) (fun v => hQ)⟩
  · subst w
    exact ⟨257, m_objs h hb (L := 2) (by omega) 256 0 (by omega) (fun v => hQ)⟩
  · subst w
    show Q (mI μ 17 21) μ
    rw [h.prowN]
    exact hQ
  · subst w
    show Q (mI μ 17 24) μ
    rw [h.plogN]
    exact hQ
  · subst w
    show Q (mI μ 17 28) μ
    rw [h.pps]
    exact hQ
  · subst w
    show ((mI μ 17 27) = 0 → Q 0 μ) ∧ (¬ (mI μ 17 27) = 0 → Q 1 μ)
    rw [h.ptr, li_0, nI_eq (by omega) (by omega)]
    have hQ' : Q (if tr s = 0 then 0 else 1) μ := hQ
    refine ⟨fun q => ?_, fun q => ?_⟩
    · rw [if_pos q] at hQ'; exact hQ'
    · rw [if_neg q] at hQ'; exact hQ'
  · subst w
    show Q (mI μ 17 29) μ
    rw [h.pmv]
    exact hQ
  · subst w
    show Q (mI μ 17 30) μ
    rw [h.pwh]
    exact hQ
  · subst w
    exact m_greys h hb hQ
theorem k_figure {μ : Mem} {s : St} (h : Rel μ s) (a : Int32) {V : Prop} (hV : V) {N B : Mem → Prop} (hN : ∀ μ' s', Rel μ' s' → N μ') : wL_figure a (fun r135 μ134 => V ∧ wM_figure a (fun r138 μ137 => wM_thrown (fun r140 μ139 => ((r140 = r135 → VAL r135 r138 N B μ139) ∧ (¬ r140 = r135 → B μ139))) μ137) μ134) μ := by
  have hR := h
  obtain ⟨h1, h2, h3, ι, h4⟩ := h
  obtain ⟨hw, hb, ha, -, -, -, -⟩ := inv_facts h1.1
  unfold wL_figure wC_figure
  rcases fig_cases a with ⟨j, hj, e⟩ | hbad
  · refine pick (P := fC μ (fun r2 μ1 => vp_in 0 1 ∧ ∀ μ4, μ4 = sI μ1 34 (0 : Int32).toNatClampNeg r2 → V ∧ wM_figure a (fun r138 μ137 => wM_thrown (fun r140 μ139 => ((r140 = 0 → VAL 0 r138 N B μ139) ∧ (¬ r140 = 0 → B μ139))) μ137) μ4)) hj e (c_fig h4 hw hb ha hj (out_ok (post := fun μ4 => V ∧ wM_figure a (fun r138 μ137 => wM_thrown (fun r140 μ139 => ((r140 = 0 → VAL 0 r138 N B μ139) ∧ (¬ r140 = 0 → B μ139))) μ137) μ4) ⟨hV, ?_⟩))
    have hR1 := rel_out hR (fv s j)
    have e8 : (8 : Int32) = nI 8 := rfl
    unfold wM_figure
    rw [e, e8, nI_ltI (by omega) (by omega)]
    refine ⟨fun q => absurd q (nI_pos (by omega)), fun _ => ⟨fun q => absurd q (by omega), fun _ => ?_⟩⟩
    unfold wM_figure_16
    intro μ1 e1
    subst e1
    have hR2 := rel_code hR1 0
    exact pick (P := fM (sI (sI μ 34 0 (fv s j)) 17 0 0) (fun r138 μ137 => wM_thrown (fun r140 μ139 => ((r140 = 0 → VAL 0 r138 N B μ139) ∧ (¬ r140 = 0 → B μ139))) μ137)) hj rfl (m_fig hR2.2.2.1 hb hj (thr_val (mI_sI_self _ _ _ _) (fun _ => (mI_no (by omega)).trans (mI_sI_self _ _ _ _)) (hN _ s hR2)))
  · refine pickN (P := fC μ (fun r2 μ1 => vp_in 0 1 ∧ ∀ μ4, μ4 = sI μ1 34 (0 : Int32).toNatClampNeg r2 → V ∧ wM_figure a (fun r138 μ137 => wM_thrown (fun r140 μ139 => ((r140 = 0 → VAL 0 r138 N B μ139) ∧ (¬ r140 = 0 → B μ139))) μ137) μ4)) hbad ⟨fun _ => ⟨hV, ?_⟩, fun q => absurd rfl q⟩
    have c15 : wM_figure_15 a (fun r138 μ137 => wM_thrown (fun r140 μ139 => ((r140 = 1 → VAL 1 r138 N B μ139) ∧ (¬ r140 = 1 → B μ139))) μ137) (bump μ 7) := by
      unfold wM_figure_15 wM_figure_16
      intro μ1 e1
      subst e1
      exact pickN (P := fM (sI (bump μ 7) 17 0 1) (fun r138 μ137 => wM_thrown (fun r140 μ139 => ((r140 = 1 → VAL 1 r138 N B μ139) ∧ (¬ r140 = 1 → B μ139))) μ137)) hbad (thr_val (mI_sI_self _ _ _ _) (fun q => absurd q (by decide)) (hN _ s (rel_code (rel_bump hR 7) 1)))
    unfold wM_figure
    refine ⟨fun _ => c15, fun q => ⟨fun _ => c15, fun w => ?_⟩⟩
    rcases hbad with z | z
    · exact absurd z q
    · exact absurd z.2 w
theorem neg_le {a : Int32} (h : ¬ 0 ≤ a) : a ≤ 0 := by
  rw [Int32.le_iff_toInt_le] at *
  omega
theorem nneg {a : Int32} (h : 0 ≤ a) : ∃ n : Nat, n < 2 ^ 31 ∧ a = nI n := nI_of (Int32.not_lt.mpr h)
theorem keep34 {μ μ1 : Mem} (hF : Fr moS μ μ1) : mI μ1 34 0 = mI μ 34 0 := by rw [(hF.2.2 34 (by unfold moS; omega)).1]
theorem k_drain {μ : Mem} {s : St} (h : Rel μ s) (a : Int32) {V : Prop} (hV : V) {N B : Mem → Prop} (hN : ∀ μ' s', Rel μ' s' → N μ') : wL_drain a (fun r69 μ68 => V ∧ wM_drain a (fun r72 μ71 => wM_thrown (fun r74 μ73 => ((r74 = r69 → VAL r69 r72 N B μ73) ∧ (¬ r74 = r69 → B μ73))) μ71) μ68) μ := by
  have hR := h
  obtain ⟨h1, h2, h3, ι, h4⟩ := h
  unfold wL_drain wC_drain
  by_cases ha : 0 ≤ a
  · obtain ⟨n, hn, e⟩ := nneg ha
    subst e
    refine ⟨fun _ => ?_, fun q => absurd ha q⟩
    unfold wC_drainUpTo
    refine ⟨263, c_drain_loop (I := fun t => Inv t (bf s)) inv_drI (N := n) hn (ι := ι) (d := 0) 262 0 s μ h1.1 (dr_262 h1.1) (by omega) h4 (fun μ1 c1 hF1 v => ?_)⟩
    rw [Nat.sub_zero] at c1
    have hO := ok_drN h1 n
    have hnx : nx (drN n s) < 256 := by rw [nx_drN]; exact h2
    obtain ⟨-, -, -, hl, -, -, -⟩ := inv_facts hO.1
    obtain ⟨f, -, -, e2, -, -⟩ := c1.wt
    rw [e2, List.length_map]
    refine out_ok ⟨hV, ?_⟩
    have m0 : MR (sI μ1 34 0 (nI (row (drN n s)).length)) s := (h3.byC hF1).frame (fun r hr => mI_ne (by omega))
    have c2 := cr_m c1 (r := 34) (j := 0) (v := nI (row (drN n s)).length) o34
    unfold wM_drain
    refine ⟨fun _ => ?_, fun q => absurd ha q⟩
    unfold wM_drain_10
    intro μ2 e2
    subst e2
    have c3 := cr_code c2 0
    refine ⟨263, m_drain_loop (I := fun t => Inv t (bf s)) inv_drI (N := n) hn 262 0 s _ h1.1 (dr_262 h1.1) (by omega) (m0.w_code (v := 0)) (fun μ3 m3 hF3 v => ?_)⟩
    rw [Nat.sub_zero] at m3
    have ec : mI μ3 17 0 = 0 := hF3.1.2.trans (mI_sI_self _ _ _ _)
    rw [ec, m3.prowN]
    refine ⟨fun _ => thr_val ec (fun _ => ?_) (hN _ (drN n s) ⟨hO, hnx, m3, ι, c3.byM hF3⟩), fun q => absurd (by decide) q⟩
    rw [keep34 hF3, mI_no (by omega), mI_sI_self]
  · refine ⟨fun q => absurd q ha, fun _ => ⟨fun _ => ⟨hV, ?_⟩, fun q => absurd rfl q⟩⟩
    unfold wM_drain
    refine ⟨fun q => absurd q ha, fun _ => ?_⟩
    unfold wM_drain_10
    intro μ2 e2
    subst e2
    refine ⟨1, ?_⟩
    unfold wM_drain_15
    rw [mI_sI_self]
    exact ⟨fun _ => ⟨fun q => absurd q z_no1, fun _ => thr_val (mI_sI_self _ _ _ _) (fun q => absurd q (by decide)) (hN _ s (rel_code (rel_bump hR 7) 1))⟩, fun q => absurd (neg_le ha) q⟩
theorem k_trace {μ : Mem} {s : St} (h : Rel μ s) (a : Int32) {V : Prop} (hV : V) {N B : Mem → Prop} (hN : ∀ μ' s', Rel μ' s' → N μ') : wL_trace a (fun r78 μ77 => V ∧ wM_trace a (fun r81 μ80 => wM_thrown (fun r83 μ82 => ((r83 = r78 → VAL r78 r81 N B μ82) ∧ (¬ r83 = r78 → B μ82))) μ80) μ77) μ := by
  have hR := h
  obtain ⟨h1, h2, h3, ι, h4⟩ := h
  obtain ⟨-, hb, -, -, -, -, -⟩ := inv_facts h1.1
  have htr := hb.2.2.2
  have cbad : ∀ (c : Int32) (μ1 : Mem), Rel μ1 s → ¬ c ≤ 0 → wM_trace_21 a c (fun r81 μ80 => wM_thrown (fun r83 μ82 => ((r83 = c → VAL c r81 N B μ82) ∧ (¬ r83 = c → B μ82))) μ80) μ1 := by
    intro c μ1 hR1 hc
    unfold wM_trace_21
    intro μ2 e2
    subst e2
    rw [mI_sI_self]
    exact ⟨fun q => absurd q hc, fun _ => thr_val (mI_sI_self _ _ _ _) (fun q => by rw [q] at hc; exact absurd (by decide) hc) (hN _ s (rel_code hR1 c))⟩
  unfold wL_trace wC_trace
  by_cases ha : 0 ≤ a
  · refine ⟨fun _ => ?_, fun q => absurd ha q⟩
    rw [h4.ptr, li_0, nI_eq (by omega) (by omega)]
    refine ⟨fun q => ⟨fun q => absurd q (by decide), fun _ => ⟨hV, ?_⟩, fun _ q => absurd rfl q⟩, fun q => ?_⟩
    · unfold wM_trace
      refine ⟨fun _ => ?_, fun q => absurd ha q⟩
      rw [show mI (bump μ 8) 17 27 = nI (tr s) from h3.ptr, li_0, nI_eq (by omega) (by omega)]
      exact ⟨fun _ => cbad 2 _ (rel_bump hR 8) z_no2, fun w => absurd q w⟩
    · obtain ⟨n, hn, e⟩ := nneg ha
      subst e
      unfold wC_stepUpTo
      refine ⟨514, c_steps_loop (I := fun t => Inv t (bf s)) inv_stI (N := n) hn (ι := ι) (d := 0) 512 0 s μ h1.1 (st_512 h1.1) (by omega) h4 (fun μ1 c1 hF1 u v => ?_)⟩
      rw [Nat.sub_zero] at c1
      have hO := ok_stN h1 n
      have hnx : nx (stN n s) < 256 := by rw [nx_stN]; exact h2
      obtain ⟨hw2, hb2, ha2, -, -, -, -⟩ := inv_facts hO.1
      refine c_countGrey c1 hw2 hb2 ha2 (out_ok ⟨hV, ?_⟩)
      have m0 : MR (sI μ1 34 0 (nI (gN (stN n s)))) s := (h3.byC hF1).frame (fun r hr => mI_ne (by omega))
      have c2 := cr_m c1 (r := 34) (j := 0) (v := nI (gN (stN n s))) o34
      unfold wM_trace
      refine ⟨fun _ => ?_, fun q => absurd ha q⟩
      rw [m0.ptr, li_0, nI_eq (by omega) (by omega)]
      refine ⟨fun w => absurd w q, fun _ => ?_⟩
      unfold wM_trace_21
      intro μ2 e2
      subst e2
      have c3 := cr_code c2 0
      rw [show mI (sI (sI μ1 34 0 (nI (gN (stN n s)))) 17 0 (nI 0)) 17 0 = 0 from mI_sI_self _ _ _ _]
      refine ⟨fun _ => ⟨513, m_trace_loop (I := fun t => Inv t (bf s)) inv_stI (N := n) hn 512 0 s _ h1.1 (st_512 h1.1) (by omega) (m0.w_code (v := 0)) (fun μ3 m3 hF3 v => ?_)⟩, fun q => absurd (by decide) q⟩
      rw [Nat.sub_zero] at m3
      have ec : mI μ3 17 0 = 0 := hF3.1.2.trans (mI_sI_self _ _ _ _)
      refine m_greys m3 hb2 (thr_val ec (fun _ => ?_) (hN _ (stN n s) ⟨hO, hnx, m3, ι, c3.byM hF3⟩))
      rw [keep34 hF3, mI_no (by omega), mI_sI_self]
  · refine ⟨fun q => absurd q ha, fun _ => ⟨fun _ => ⟨hV, ?_⟩, fun q => absurd q (by decide), fun q => absurd rfl q⟩⟩
    unfold wM_trace
    exact ⟨fun q => absurd q ha, fun _ => cbad 1 _ (rel_bump hR 7) z_no1⟩
theorem k_pause {μ : Mem} {s : St} (h : Rel μ s) {t1 : Int32} {b : Bool} (hb : b = true ↔ ¬ t1 = 0) {post : Int32 → Mem → Prop} (hp : ∀ μ1, MR μ1 s → (∃ ι, CR μ1 (pz b s) ι 0 (lv (pz b s))) → post (nI (grown s)) μ1) : wC_pause t1 post μ := by
  obtain ⟨h1, h2, h3, ι, h4⟩ := h
  exact c_pause hb h1 h4 (fun μ1 c1 hF => hp μ1 (h3.byC hF) ⟨ι, c1⟩)
theorem k_pause2 {μ : Mem} {s : St} (h1 : Ok s) (h2 : nx s < 256) (h3 : MR μ s) {t1 : Int32} {b : Bool} (hb : b = true ↔ ¬ t1 = 0) (hc : ∃ ι, CR μ (pz b s) ι 0 (lv (pz b s))) {post : Int32 → Mem → Prop} (hp : ∀ μ1, Rel μ1 (pz b s) → post (nI (grown s)) μ1) : wM_pause t1 post μ := by
  obtain ⟨ι, h4⟩ := hc
  unfold wM_pause
  intro μ1 e1
  subst e1
  exact m_halt hb h1 (h3.w_code (v := 0)) (fun μ2 m2 hF => hp μ2 ⟨ok_pz b h1, by rw [nx_pz]; exact h2, m2, ι, (cr_code h4 0).byM hF⟩)
