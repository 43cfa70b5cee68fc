/-! store -/
theorem lg_01 {s : St} {β : Nat → Option Nat} (h : Inv s β) {x i : Nat} (hx : sta s x ≠ 0) (hi : i < sz s x) : lg s x i ≤ 1 := by
  obtain ⟨g, S, T, ⟨hw, hb, ha, hl, hr⟩, hL, -⟩ := h
  rcases ha x hx with ⟨w, -⟩ | ⟨w, -⟩
  · rw [hL.2.2.2.2 x i w]; omega
  · by_cases e : lg s x i = 0
    · omega
    · have := (hL.2.1 _ _ _ (hL.2.2.1 x i w hi e)).2.2.1
      omega
theorem log_128 {s : St} {β : Nat → Option Nat} (h : Inv s β) : (log s).length ≤ 128 := by
  obtain ⟨g, S, T, ⟨hw, hb, ha, hl, hr⟩, hL, hC, hS, hT⟩ := h
  have := log_len hw hS.1 hL
  have := oysz hw
  omega
theorem c_log {s : St} {ι : Nat → Nat} {d : Int32} {μ : Mem} {x i : Nat} {post : Mem → Prop} (h : CR μ s ι d (lv s)) (hx : sta s x ≠ 0) (hi : i < sz s x) (h12 : sz s x ≤ 12) (hf : ∀ y, fl s x i = some y → sta s y ≠ 0) (hl : (log s).length < 128) (hp : ∀ μ1, CR μ1 (slg s x i) ι d (lv s) → Fr clS μ μ1 → post μ1) : wG_add (ι x) (nI i) post μ := by
  have hit := h.it x hx
  have h35 := hit.i35
  obtain ⟨p1, p2, p3⟩ := h.plo
  have cl9 : clS 9 := by unfold clS; omega
  have cl10 : clS 10 := by unfold clS; omega
  have cl11 : clS 11 := by unfold clS; omega
  have cl12 : clS 12 := by unfold clS; omega
  have clx : clS (ι x + 2) := by unfold clS; omega
  unfold wG_add
  rw [p1, li_128, nI_leI (by omega) (by omega), nI_clamp (by omega)]
  refine ⟨fun q => absurd q (by omega), fun _ => ⟨(nI_vp (by omega)).mpr hl, hit.o, ?_⟩⟩
  intro μ2 e2
  subst e2
  rw [mI_sR, p1, nI_clamp (by omega)]
  refine ⟨(nI_vp (by omega)).mpr hl, ?_⟩
  intro μ5 e5
  subst e5
  rw [mI_no (by omega), mI_sR, p1, nI_clamp (by omega), nI_clamp (by omega), mR_sI, mR_sR, if_neg (by omega), hit.pfl i hi]
  refine ⟨hit.o1, ?_, ?_⟩
  · show vp_in (nI i) (mL μ (ι x + 1))
    rw [hit.l1]
    exact (nI_vp (by omega)).mpr hi
  intro e8 he8
  subst he8
  refine ⟨(nI_vp (by omega)).mpr hl, fun y hy => ?_, ?_⟩
  · cases ho : fl s x i with
    | none => rw [ho] at hy; cases hy
    | some z =>
      rw [ho] at hy
      have : ι z = y := Option.some.inj hy
      subst this
      exact (h.it z (hf z ho)).o
  intro μ10 e10
  subst e10
  refine ⟨hit.o2, ?_, ?_⟩
  · show vp_in (nI i) (mL μ (ι x + 2))
    rw [hit.l2]
    exact (nI_vp (by omega)).mpr hi
  intro μ14 e14
  subst e14
  intro μ15 e15
  subst e15
  -- the three arrays
  have hF10 : Fr lgS μ (sR (sI (sR μ 10 (log s).length (some (ι x))) 11 (log s).length (nI i)) 12 (log s).length ((fl s x i).map ι)) :=
    ((Fr.sR (S := lgS) (by unfold lgS; omega)).trans (Fr.sI (by unfold lgS; omega))).trans (Fr.sR (by unfold lgS; omega))
  have r9 : ∀ j, mI (sR (sI (sR μ 10 (log s).length (some (ι x))) 11 (log s).length (nI i)) 12 (log s).length ((fl s x i).map ι)) 9 j = mI μ 9 j := by
    intro j
    rw [mI_sR, mI_no (by omega), mI_sR]
  have g10 : ∀ k, mR (sR (sI (sR μ 10 (log s).length (some (ι x))) 11 (log s).length (nI i)) 12 (log s).length ((fl s x i).map ι)) 10 k = if k = (log s).length then some (ι x) else mR μ 10 k := by
    intro k
    rw [mR_sR, if_neg (by omega), mR_sI, mR_sR]
    by_cases e : k = (log s).length
    · rw [if_pos ⟨rfl, e⟩, if_pos e]
    · rw [if_neg (fun z => e z.2), if_neg e]
  have g11 : ∀ k, mI (sR (sI (sR μ 10 (log s).length (some (ι x))) 11 (log s).length (nI i)) 12 (log s).length ((fl s x i).map ι)) 11 k = if k = (log s).length then nI i else mI μ 11 k := by
    intro k
    rw [mI_sR, mI_sI, mI_sR]
    by_cases e : k = (log s).length
    · rw [if_pos ⟨rfl, e⟩, if_pos e]
    · rw [if_neg (fun z => e z.2), if_neg e]
  have g12 : ∀ k, mR (sR (sI (sR μ 10 (log s).length (some (ι x))) 11 (log s).length (nI i)) 12 (log s).length ((fl s x i).map ι)) 12 k = if k = (log s).length then (fl s x i).map ι else mR μ 12 k := by
    intro k
    rw [mR_sR]
    by_cases e : k = (log s).length
    · rw [if_pos ⟨rfl, e⟩, if_pos e]
    · rw [if_neg (fun z => e z.2), if_neg e, mR_sI, mR_sR, if_neg (by omega)]
  generalize hμ : sR (sI (sR μ 10 (log s).length (some (ι x))) 11 (log s).length (nI i)) 12 (log s).length ((fl s x i).map ι) = μ10 at *
  have cA : CR μ10 s ι d (lv s) := by
    have := h.wlog (l := log s) hF10 ⟨by rw [r9]; exact p1, p2, fun k y j o hk => ?_⟩
    · exact this.ext (by simp only [eqS, q_cel_ulog, q_sta_ulog, q_ad_ulog, q_sz_ulog, q_tg_ulog, q_ct_ulog, q_co_ulog, q_fl_ulog, q_lg_ulog, q_nx_ulog, q_rt_ulog, q_bf_ulog, q_hf_ulog, q_he_ulog, q_hc_ulog, q_ov_ulog, q_oc_ulog, q_cl_ulog, q_lf_ulog, q_row_ulog, q_log_ulog, q_tr_ulog, q_ps_ulog, q_mv_ulog, q_wh_ulog, and_self])
    · have hlt := (List.getElem?_eq_some_iff.mp hk).1
      rw [g10, g11, g12, if_neg (by omega), if_neg (by omega), if_neg (by omega)]
      exact p3 k y j o hk
  have cB := cA.w_lg (x := x) (i := i) (v := 1) hx
  have n9 : mI (sI μ10 (ι x + 2) i 1) 9 3 = nI (log s).length := by
    rw [mI_no (by omega), r9]
    exact p1
  have h12' : ∀ r j, r ≤ 12 → mI (sI (sI μ10 (ι x + 2) i 1) 9 3 (nI ((log s).length + 1))) r j = if r = 9 ∧ j = 3 then nI ((log s).length + 1) else mI μ10 r j := by
    intro r j hr
    rw [mI_sI]
    by_cases e : r = 9 ∧ j = 3
    · rw [if_pos e, if_pos e]
    · rw [if_neg e, if_neg e, mI_no (by omega)]
  rw [n9, nI_1]
  have cC := cB.wlog (μ1 := sI (sI μ10 (ι x + 2) i 1) 9 3 (nI ((log s).length + 1))) (l := log s ++ [(x, i, fl s x i)]) (Fr.sI (by unfold lgS; omega)) ⟨?_, ?_, fun k y j o hk => ?_⟩
  · refine hp _ cC ((hF10.mono (fun r hr => by unfold lgS at hr; unfold clS; omega)).trans ((Fr.sI clx).trans (Fr.sI cl9)))
  · rw [mI_sI_self, List.length_append]
    rfl
  · rw [List.length_append]
    show (log s).length + 1 ≤ 128
    omega
  · rw [mR_sI, mR_sI, h12' 11 k (by omega), if_neg (by omega), mR_sI, mR_sI, g10, g11, g12]
    by_cases e : k = (log s).length
    · subst e
      rw [List.getElem?_append_right (Nat.le_refl _), Nat.sub_self] at hk
      have hk' := Option.some.inj hk
      obtain ⟨q1, q0⟩ := Prod.mk.inj hk'
      obtain ⟨q2, q3⟩ := Prod.mk.inj q0
      subst q1; subst q2; subst q3
      rw [if_pos rfl, if_pos rfl, if_pos rfl]
      exact ⟨rfl, rfl, rfl⟩
    · have hlt : k < (log s).length := by
        have := (List.getElem?_eq_some_iff.mp hk).1
        rw [List.length_append] at this
        have h1 : [(x, i, fl s x i)].length = 1 := rfl
        omega
      rw [List.getElem?_append_left hlt] at hk
      rw [if_neg e, if_neg e, if_neg e]
      exact p3 k y j o hk
theorem m_log {s : St} {μ : Mem} {x i : Nat} (h : MR μ s) (hx : x < 256) (hi : i < 12) (hl : (log s).length < 128) : MR (sI (sI (sI (sI μ 26 (12 * x + i) 1) 31 (log s).length (nI (12 * x + i))) 32 (log s).length (eo (fl s x i))) 17 24 (nI ((log s).length + 1))) (slg s x i) := by
  have h1 : MR (sI μ 26 (12 * x + i) (nI 1)) (ulg s (up2 (lg s) x i 1)) := h.w_lg hi
  have a31 : ∀ k, mI (sI (sI (sI (sI μ 26 (12 * x + i) 1) 31 (log s).length (nI (12 * x + i))) 32 (log s).length (eo (fl s x i))) 17 24 (nI ((log s).length + 1))) 31 k = if k = (log s).length then nI (12 * x + i) else mI μ 31 k := by
    intro k
    rw [mI_no (by omega), mI_no (by omega), mI_sI]
    by_cases e : k = (log s).length
    · rw [if_pos ⟨rfl, e⟩, if_pos e]
    · rw [if_neg (fun z => e z.2), if_neg e, mI_no (by omega)]
  have a32 : ∀ k, mI (sI (sI (sI (sI μ 26 (12 * x + i) 1) 31 (log s).length (nI (12 * x + i))) 32 (log s).length (eo (fl s x i))) 17 24 (nI ((log s).length + 1))) 32 k = if k = (log s).length then eo (fl s x i) else mI μ 32 k := by
    intro k
    rw [mI_no (by omega), mI_sI]
    by_cases e : k = (log s).length
    · rw [if_pos ⟨rfl, e⟩, if_pos e]
    · rw [if_neg (fun z => e z.2), if_neg e, mI_no (by omega), mI_no (by omega)]
  refine h1.logset (fun r j h31 h32 hn => ?_) ?_ (fun k y j o hk => ?_)
  · rw [mI_no hn, mI_no (by omega), mI_no (by omega)]
    rfl
  · rw [mI_sI_self, List.length_append]
    rfl
  · rw [a31, a32]
    by_cases e : k = (log s).length
    · subst e
      rw [List.getElem?_append_right (Nat.le_refl _), Nat.sub_self] at hk
      have hk' := Option.some.inj hk
      obtain ⟨q1, q0⟩ := Prod.mk.inj hk'
      obtain ⟨q2, q3⟩ := Prod.mk.inj q0
      subst q1; subst q2; subst q3
      rw [if_pos rfl, if_pos rfl]
      exact ⟨rfl, rfl⟩
    · have hlt : k < (log s).length := by
        have := (List.getElem?_eq_some_iff.mp hk).1
        rw [List.length_append] at this
        have h1 : [(x, i, fl s x i)].length = 1 := rfl
        omega
      rw [List.getElem?_append_left hlt] at hk
      rw [if_neg e, if_neg e]
      exact h.plog k y j o hk
theorem fl_up {s : St} {x i : Nat} {v : Option Nat} (t : St) (e : fl t = fl s) : up2 (fl t) x i v = up2 (fl s) x i v := by rw [e]
theorem k_store {μ : Mem} {s : St} (h : Rel μ s) (a i b : Int32) {V1 V2 V3 : Prop} (hV1 : V1) (hV2 : V2) (hV3 : V3) {N B : Mem → Prop} (hN : ∀ μ' s', Rel μ' s' → N μ') : wL_store a i b (fun r60 μ59 => V1 ∧ V2 ∧ V3 ∧ wM_store a i b (fun μ64 => wM_thrown (fun r66 μ65 => ((r66 = r60 → N μ65) ∧ (¬ r66 = r60 → B μ65))) μ64) μ59) μ := by
  have hR := h
  obtain ⟨h1, h2, h3, ι, h4⟩ := h
  obtain ⟨hw, hb, ha, -, -, hrt, hf⟩ := inv_facts h1.1
  unfold wL_store wC_store
  rcases two_cases a b with ⟨r, r2, hr, hr2, e, e2⟩ | hbad
  · subst e; subst e2
    refine c_iwf h4 hw hrt hr hr2 (fun hn => ⟨fun q => absurd q (by decide), fun _ => ⟨hV1, hV2, hV3, ?_⟩, fun q => absurd q (by decide), fun _ q => absurd rfl q⟩) (fun x hx hbf => ⟨fun q => absurd q (by decide), fun q => absurd q (by decide), fun _ => ⟨hV1, hV2, hV3, ?_⟩, fun _ _ q => absurd rfl q⟩) (fun x k hx hk e => ?_)
    · unfold wM_store
      have hR1 := rel_bump hR 8
      refine m_reach hR1.2.2.1 hw hrt hr hr2 (fun _ => ⟨fun q => ?_, fun _ => thr_void (mI_sI_self _ _ _ _) (hN _ s (rel_code hR1 2))⟩) (fun x hx => by rw [hn] at hx; cases hx) (fun x k hx => by rw [hn] at hx; cases hx)
      rw [mI_sI_self] at q
      exact absurd q z_no2
    · unfold wM_store
      have hR1 := rel_bump hR 9
      refine m_reach hR1.2.2.1 hw hrt hr hr2 (fun hn => by rw [hn] at hx; cases hx) (fun _ _ _ => ⟨fun q => ?_, fun _ => thr_void (mI_sI_self _ _ _ _) (hN _ s (rel_code (rel_code hR1 0) 3))⟩) (fun y k hy hk e => ?_)
      · rw [mI_sI_self] at q
        exact absurd q z_no3
      · have := some_inj2 hx hy
        subst this
        subst e
        exact (badF_no (hw.sz12 (hrt r x hr hx)) hk hbf).elim
    · subst e
      have hl := hrt r x hr hx
      have hx2 := hw.lt hl
      have h12 := hw.sz12 hl
      have hi := h4.it x hl
      have hct := hb.2.1 x
      have hst := hb.1 x
      have hlg := lg_01 h1.1 hl hk
      have e12 : 12 * nI x + nI k = nI (12 * x + k) := by rw [li_12, nI_mul, nI_add]
      have ex : eo (some x) = nI x := rfl
      have hO : Ok (sto s x k (rt s r2)) := by
        refine ⟨?_, ?_⟩
        · have hbf : bf (sto s x k (rt s r2)) = bf s := by unfold sto; split <;> rfl
          rw [hbf]
          exact inv_sto h1.1 hr hx hr2 hk
        · unfold sto
          split
          · exact h1.2
          · exact h1.2
      have hnx : nx (sto s x k (rt s r2)) < 256 := by
        have : nx (sto s x k (rt s r2)) = nx s := by unfold sto; split <;> rfl
        rw [this]
        exact h2
      have hok : ∀ t μ1, rt t = rt s → lv t = lv s → CR μ1 t ι 0 (lv t) → ∀ y, mR μ1 1 r2 = some y → okO μ1 y 5 := by
        intro t μ1 et el c y hy
        rw [c.prt r2 hr2, et] at hy
        cases ho : rt s r2 with
        | none => rw [ho] at hy; cases hy
        | some z =>
          rw [ho] at hy
          have : ι z = y := Option.some.inj hy
          subst this
          exact (c.it z (by rw [el]; exact hrt r2 z hr2 ho)).o
      -- the model at the end
      have model : ∀ μ4, MR μ4 s → CR μ4 (sto s x k (rt s r2)) ι 0 (lv (sto s x k (rt s r2))) → wM_store (nI r) (nI k) (nI r2) (fun μ64 => wM_thrown (fun r66 μ65 => ((r66 = 0 → N μ65) ∧ (¬ r66 = 0 → B μ65))) μ64) μ4 := by
        intro μ4 m4 c4
        unfold wM_store
        refine m_reach m4 hw hrt hr hr2 (fun hn => by rw [hn] at hx; cases hx) (fun y hy hbf => ?_) (fun y k2 hy hk2 e => ?_)
        · have := some_inj2 hx hy
          subst this
          exact (badF_no h12 hk hbf).elim
        · have m2 := (m4.w_code (v := 0)).w_code (v := 0)
          have c3 := cr_code (cr_code c4 0) 0
          generalize hμ : sI (sI μ4 17 0 0) 17 0 0 = μ5 at *
          have e0 : mI μ5 17 0 = 0 := by rw [← hμ]; exact mI_sI_self _ _ _ _
          rw [e0, nI_clamp (by omega), m2.prt r hr, hx, ex, e12, nI_clamp (by omega), nI_clamp (by omega), m2.psta x hx2, m2.plg x k hx2 (by omega), li_2, li_0, nI_eq (by omega) (by omega), nI_eq (by omega) (by omega)]
          refine ⟨fun _ => ⟨(nI_vp (by omega)).mpr hr, (nI_vp (by omega)).mpr hx2, fun q2 => ⟨(nI_vp (by omega)).mpr (by omega), fun ql => ?_, fun ql => ?_⟩, fun q2 => ?_⟩, fun q => absurd (by decide) q⟩
          · have h128 := log_128 (inv_slg h1.1 hr hx hk q2 ql)
            have hll : (log (slg s x k)).length = (log s).length + 1 := by
              show (log s ++ [(x, k, fl s x k)]).length = _
              rw [List.length_append]
              rfl
            rw [hll] at h128
            have es : sto s x k (rt s r2) = ufl (slg s x k) (up2 (fl s) x k (rt s r2)) := if_pos ⟨q2, ql⟩
            have ml := m_log m2 hx2 (show k < 12 by omega) (show (log s).length < 128 by omega)
            intro μ10 e10
            subst e10
            rw [show mI (sI μ5 26 (12 * x + k) 1) 17 24 = nI (log s).length from (mI_no (by omega)).trans m2.plogN, nI_clamp (by omega)]
            refine ⟨(nI_vp (by omega)).mpr (by omega), ?_⟩
            intro μ12 e12'
            subst e12'
            rw [show mI (sI (sI μ5 26 (12 * x + k) 1) 31 (log s).length (nI (12 * x + k))) 17 24 = nI (log s).length from (mI_no (by omega)).trans ((mI_no (by omega)).trans m2.plogN), nI_clamp (by omega), show mI (sI (sI μ5 26 (12 * x + k) 1) 31 (log s).length (nI (12 * x + k))) 25 (12 * x + k) = eo (fl s x k) from (mI_no (by omega)).trans ((mI_no (by omega)).trans (m2.pfl x k hx2 (by omega)))]
            refine ⟨(nI_vp (by omega)).mpr (by omega), ?_⟩
            intro μ14 e14
            subst e14
            intro μ15 e15
            subst e15
            rw [show mI (sI (sI (sI μ5 26 (12 * x + k) 1) 31 (log s).length (nI (12 * x + k))) 32 (log s).length (eo (fl s x k))) 17 24 = nI (log s).length from (mI_no (by omega)).trans ((mI_no (by omega)).trans ((mI_no (by omega)).trans m2.plogN)), nI_1]
            refine ⟨(nI_vp (by omega)).mpr hr2, ?_⟩
            intro μ17 e17
            subst e17
            rw [nI_clamp (by omega), ml.prt r2 hr2]
            refine thr_void ?_ (hN _ (sto s x k (rt s r2)) ⟨hO, hnx, ?_, ι, cr_m (cr_m (cr_m (cr_m (cr_m c3 o26) o31) o32) o17) o25⟩)
            · rw [mI_no (by omega), mI_no (by omega), mI_no (by omega), mI_no (by omega), mI_no (by omega)]
              exact e0
            · rw [es]
              exact ml.w_fl (x := x) (i := k) (v := rt s r2) (by omega)
          · have es : sto s x k (rt s r2) = ufl s (up2 (fl s) x k (rt s r2)) := if_neg (fun z => ql z.2)
            refine ⟨(nI_vp (by omega)).mpr hr2, ?_⟩
            intro μ9 e9
            subst e9
            rw [nI_clamp (by omega), m2.prt r2 hr2]
            refine thr_void ((mI_no (by omega)).trans e0) (hN _ (sto s x k (rt s r2)) ⟨hO, hnx, ?_, ι, cr_m c3 o25⟩)
            rw [es]
            exact m2.w_fl (x := x) (i := k) (v := rt s r2) (by omega)
          · have es : sto s x k (rt s r2) = ufl s (up2 (fl s) x k (rt s r2)) := if_neg (fun z => q2 z.1)
            refine ⟨(nI_vp (by omega)).mpr hr2, (nI_vp (by omega)).mpr (by omega), ?_⟩
            intro μ6 e6
            subst e6
            rw [nI_clamp (by omega), m2.prt r2 hr2]
            refine thr_void ((mI_no (by omega)).trans e0) (hN _ (sto s x k (rt s r2)) ⟨hO, hnx, ?_, ι, cr_m c3 o25⟩)
            rw [es]
            exact m2.w_fl (x := x) (i := k) (v := rt s r2) (by omega)
      refine ⟨hi.o, c_isOld hi hct (fun q => ⟨fun w => absurd w (by decide), fun _ => ⟨hi.o, hi.o2, by rw [hi.l2]; exact (nI_vp (by omega)).mpr hk, ?_⟩⟩) (fun q => ⟨fun _ => ⟨hi.o, (nI_vp (by omega)).mpr hr2, ?_⟩, fun w => absurd rfl w⟩)⟩
      · have q2 : sta s x = 2 := (ha.iff hl).mp q
        rw [nI_clamp (by omega), hi.plg k hk, li_0, nI_eq (by omega) (by omega), nI_clamp (by omega)]
        refine ⟨fun ql => ?_, fun ql => ⟨(nI_vp (by omega)).mpr hr2, ?_⟩⟩
        · have h128 := log_128 (inv_slg h1.1 hr hx hk q2 ql)
          have hll : (log (slg s x k)).length = (log s).length + 1 := by
            show (log s ++ [(x, k, fl s x k)]).length = _
            rw [List.length_append]
            rfl
          rw [hll] at h128
          have es : sto s x k (rt s r2) = ufl (slg s x k) (up2 (fl s) x k (rt s r2)) := if_pos ⟨q2, ql⟩
          refine c_log h4 hl hk h12 (fun y hy => hf x k y hl hk hy) (by omega) (fun μ1 c1 hF1 => ?_)
          have i1 := c1.it x hl
          refine ⟨i1.o, (nI_vp (by omega)).mpr hr2, ?_⟩
          intro e25 he25
          subst he25
          refine ⟨i1.o1, by rw [i1.l1]; exact (nI_vp (by omega)).mpr hk, hok (slg s x k) μ1 rfl rfl c1, ?_⟩
          intro μ28 e28
          subst e28
          refine ⟨hV1, hV2, hV3, model _ ?_ ?_⟩
          · exact (h3.byC hF1).frame (fun _ _ => rfl)
          · rw [c1.prt r2 hr2, es]
            exact c1.w_fl (x := x) (i := k) (v := rt s r2) hl
        · have es : sto s x k (rt s r2) = ufl s (up2 (fl s) x k (rt s r2)) := if_neg (fun z => ql z.2)
          intro e17 he17
          subst he17
          refine ⟨hi.o1, by rw [hi.l1]; exact (nI_vp (by omega)).mpr hk, hok s μ rfl rfl h4, ?_⟩
          intro μ20 e20
          subst e20
          refine ⟨hV1, hV2, hV3, model _ ?_ ?_⟩
          · exact h3.frame (fun _ _ => rfl)
          · rw [h4.prt r2 hr2, es]
            exact h4.w_fl (x := x) (i := k) (v := rt s r2) hl
      · have q2 : ¬ sta s x = 2 := fun z => by
          have := (ha.iff hl).mpr z
          omega
        have es : sto s x k (rt s r2) = ufl s (up2 (fl s) x k (rt s r2)) := if_neg (fun z => q2 z.1)
        intro e8 he8
        subst he8
        rw [nI_clamp (by omega), nI_clamp (by omega)]
        refine ⟨hi.o1, by rw [hi.l1]; exact (nI_vp (by omega)).mpr hk, hok s μ rfl rfl h4, ?_⟩
        intro μ11 e11
        subst e11
        refine ⟨hV1, hV2, hV3, model _ ?_ ?_⟩
        · exact h3.frame (fun _ _ => rfl)
        · rw [h4.prt r2 hr2, es]
          exact h4.w_fl (x := x) (i := k) (v := rt s r2) hl
  · refine c_iwf_bad hbad ⟨fun _ => ⟨hV1, hV2, hV3, ?_⟩, fun q => absurd q (by decide), fun q => absurd q (by decide), fun q => absurd rfl q⟩
    unfold wM_store
    refine m_reach_bad hbad ⟨fun q => ?_, fun _ => thr_void (mI_sI_self _ _ _ _) (hN _ s (rel_code (rel_bump hR 7) 1))⟩
    rw [mI_sI_self] at q
    exact absurd q z_no1
