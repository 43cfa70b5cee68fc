/-! Objects leave their cells, and get others -/
def own (s : St) (x : Nat) : Prop := 1 ≤ sz s x ∧ sz s x ≤ 12 ∧ ad s x + sz s x ≤ 128 ∧ ∀ j, cel s j = some x ↔ ad s x ≤ j ∧ j < ad s x + sz s x
def los (s : St) (x : Nat) : St := usta (ucel s (clr (cel s) (ad s x) (sz s x))) (up (sta s) x 0)
def mvo (s : St) (x : Nat) : St := ulf (ucel s (clr (cel s) (ad s x) (sz s x))) (mrk (lf s) (ad s x) (sz s x))
def lay (s : St) (x a : Nat) : St := uad (ucel s (put (cel s) a (sz s x) x)) (up (ad s) x a)
theorem obj_eq (s : St) (a : Nat) : obj s a = (cel s a).bind fun x => if ad s x = a then some x else none := rfl
theorem obj_clr {s : St} {x : Nat} (ho : own s x) (a : Nat) : obj (ucel s (clr (cel s) (ad s x) (sz s x))) a = if a = ad s x then none else obj s a := by
  rw [obj_eq, obj_eq, q_cel_ucel, q_ad_ucel]
  unfold clr
  by_cases h : ad s x ≤ a ∧ a < ad s x + sz s x
  · rw [if_pos h]
    by_cases e : a = ad s x
    · rw [if_pos e]; rfl
    · rw [if_neg e, (ho.2.2.2 a).mpr h]
      show none = if ad s x = a then some x else none
      rw [if_neg (fun z => e z.symm)]
  · have hne : a ≠ ad s x := fun e => h ⟨by omega, by have := ho.1; omega⟩
    rw [if_neg h, if_neg hne]
theorem obj_lay {s : St} {x a : Nat} (hn : 1 ≤ sz s x) (hno : ∀ j, cel s j ≠ some x) (hfree : ∀ j, a ≤ j → j < a + sz s x → cel s j = none) (c : Nat) : obj (lay s x a) c = if c = a then some x else obj s c := by
  unfold lay
  rw [obj_eq, obj_eq, q_cel_uad, q_cel_ucel, q_ad_uad]
  unfold put
  by_cases h : a ≤ c ∧ c < a + sz s x
  · rw [if_pos h]
    show (if up (ad s) x a x = c then some x else none) = _
    rw [up_self]
    by_cases e : c = a
    · rw [if_pos e.symm, if_pos e]
    · rw [if_neg (fun z => e z.symm), if_neg e, hfree c h.1 h.2]
      rfl
  · have hne : c ≠ a := fun e => h ⟨by omega, by omega⟩
    rw [if_neg h, if_neg hne]
    cases hc : cel s c with
    | none => rfl
    | some y =>
      have : y ≠ x := fun e => hno c (by rw [hc, e])
      show (if up (ad s) x a y = c then some y else none) = if ad s y = c then some y else none
      rw [up_ne this]
def rmS (r : Nat) : Prop := r = 3 ∨ r = 5 ∨ r = 6
theorem rm_cm : ∀ r, rmS r → cmS r := fun r h => by unfold rmS at h; unfold cmS; omega
theorem rm_cl : ∀ r, rmS r → clS r := fun r h => by unfold rmS at h; unfold clS; omega
/-- the cells of an object have been given back: the memory's side -/
theorem CR.rm {μ μ1 : Mem} {s s1 : St} {ι : Nat → Nat} {d : Int32} {P : Nat → Prop} {x : Nat} (h : CR μ s ι d P) (hF : Fr rmS μ μ1) (h3 : ∀ a, a < 128 → mR μ1 3 a = (obj s1 a).map ι) (hP : PR μ1 (pg s1))
    (e : sz s1 = sz s ∧ tg s1 = tg s ∧ ad s1 = ad s ∧ ct s1 = ct s ∧ co s1 = co s ∧ fl s1 = fl s ∧ lg s1 = lg s ∧ rt s1 = rt s ∧ bf s1 = bf s ∧ row s1 = row s ∧ log s1 = log s ∧ tr s1 = tr s ∧ ps s1 = ps s ∧ mv s1 = mv s ∧ wh s1 = wh s) : CR μ1 s1 ι d P := by
  obtain ⟨e1, e2, e3, e4, e5, e6, e7, e8, e9, e10, e11, e12, e13, e14, e15⟩ := e
  have f : ∀ r, r ≠ 3 → r ≠ 5 → r ≠ 6 → mI μ1 r = mI μ r ∧ mR μ1 r = mR μ r := fun r h1 h2 h3 => hF.2.2 r (by unfold rmS; omega)
  have f0 : mI μ1 0 = mI μ 0 := (f 0 (by omega) (by omega) (by omega)).1
  refine h.mk hF (fun x hx => ?_) h3 ?_ ?_ hP ?_ ?_ ?_ ?_ ?_ ?_
  · have hi := h.it x hx
    have h35 := hi.i35
    exact hi.frame hF (f _ (by omega) (by omega) (by omega)).1 (f _ (by omega) (by omega) (by omega)).2 (f _ (by omega) (by omega) (by omega)).1 (congrFun e1 x) (congrFun e2 x) (congrFun e3 x) (congrFun e4 x) (congrFun e5 x) (congrFun e6 x) (congrFun e7 x)
  · rw [(f 1 (by omega) (by omega) (by omega)).2, e8]; exact h.prt
  · rw [(f 2 (by omega) (by omega) (by omega)).2, e9]; exact h.pbf
  · rw [e10]; exact h.wt.frame (f 13 (by omega) (by omega) (by omega)).1 (f 14 (by omega) (by omega) (by omega)).2
  · rw [e11]; exact h.plo.frame (f 9 (by omega) (by omega) (by omega)).1 (f 10 (by omega) (by omega) (by omega)).2 (f 11 (by omega) (by omega) (by omega)).1 (f 12 (by omega) (by omega) (by omega)).2
  · rw [f0, e12]; exact h.ptr
  · rw [f0, e13]; exact h.pps
  · rw [f0, e14]; exact h.pmv
  · rw [f0, e15]; exact h.pwh
theorem obj_los {s : St} {x : Nat} (ho : own s x) (a : Nat) : obj (los s x) a = if a = ad s x then none else obj s a := obj_clr ho a
theorem obj_mvo {s : St} {x : Nat} (ho : own s x) (a : Nat) : obj (mvo s x) a = if a = ad s x then none else obj s a := obj_clr ho a
theorem c_remove {x : Nat} {post : Mem → Prop} {μ : Mem} {s : St} {ι : Nat → Nat} {d : Int32} {P : Nat → Prop} (h : CR μ s ι d P) (hx : P x) (ho : own s x) (hs : small s) (hp : ∀ μ1, CR μ1 (los s x) ι d P → Fr clS μ μ1 → post μ1) : wC_remove (ι x) post μ := by
  obtain ⟨o1, o2, o3, o4⟩ := ho
  have hi := h.it x hx
  have h35 := hi.i35
  unfold wC_remove wP_vacate
  rw [hi.pad, nI_clamp (by omega)]
  refine ⟨hi.o, (nI_vp (by omega)).mpr (by omega), ?_⟩
  intro μ3 e3
  subst e3
  refine ⟨sz s x + 1, ?_⟩
  rw [mI_sR, mI_sR, hi.pad, hi.psz]
  have h0 : PR (sR μ 3 (ad s x) none) (pg (ucel s (clr (cel s) (ad s x) 0))) := by
    rw [clr_0]
    exact h.pl.frame (fun r _ => rfl)
  refine c_vacate_loop (x := x) o3 hs (fun j h1 h2 => (o4 j).mpr ⟨h1, h2⟩) (sz s x) 0 _ (by omega) h0 (fun μ1 hP hF l => ?_)
  have hF3 : Fr rmS μ μ1 := (Fr.sR (S := rmS) (Or.inl rfl)).trans (hF.mono (fun r hr => Or.inr (Or.inl hr)))
  refine hp μ1 (h.rm (x := x) hF3 (fun a ha => ?_) hP (by unfold los; simp only [q_cel_usta, q_sta_usta, q_ad_usta, q_sz_usta, q_tg_usta, q_ct_usta, q_co_usta, q_fl_usta, q_lg_usta, q_nx_usta, q_rt_usta, q_bf_usta, q_hf_usta, q_he_usta, q_hc_usta, q_ov_usta, q_oc_usta, q_cl_usta, q_lf_usta, q_row_usta, q_log_usta, q_tr_usta, q_ps_usta, q_mv_usta, q_wh_usta, q_cel_ucel, q_sta_ucel, q_ad_ucel, q_sz_ucel, q_tg_ucel, q_ct_ucel, q_co_ucel, q_fl_ucel, q_lg_ucel, q_nx_ucel, q_rt_ucel, q_bf_ucel, q_hf_ucel, q_he_ucel, q_hc_ucel, q_ov_ucel, q_oc_ucel, q_cl_ucel, q_lf_ucel, q_row_ucel, q_log_ucel, q_tr_ucel, q_ps_ucel, q_mv_ucel, q_wh_ucel, and_self])) (hF3.mono rm_cl)
  have e3 : mR μ1 3 = mR (sR μ 3 (ad s x) none) 3 := (hF.2.2 3 (by unfold r5; omega)).2
  rw [e3, mR_sR, obj_los ⟨o1, o2, o3, o4⟩]
  by_cases e : a = ad s x
  · rw [if_pos ⟨rfl, e⟩, if_pos e]; rfl
  · rw [if_neg (fun z => e z.2), if_neg e]
    exact h.pat a ha
theorem c_settle {x a : Nat} {post : Mem → Prop} {μ : Mem} {s : St} {ι : Nat → Nat} {d : Int32} {P : Nat → Prop} (h : CR μ s ι d P) (hx : P x) (hx2 : x < 256) (hn : 1 ≤ sz s x) (ha : a + sz s x ≤ 128) (hno : ∀ j, cel s j ≠ some x) (hfree : ∀ j, a ≤ j → j < a + sz s x → cel s j = none) (hs : small s)
    (hp : ∀ μ1, CR μ1 (lay s x a) ι d P → Fr cmS μ μ1 → post μ1) : wC_settle (ι x) (nI a) post μ := by
  have hi := h.it x hx
  have h35 := hi.i35
  unfold wC_settle wP_occupy
  refine ⟨hi.o, ?_⟩
  intro μ2 e2
  subst e2
  refine ⟨(nI_vp (by omega)).mpr (by omega), ?_⟩
  rw [nI_clamp (by omega)]
  intro μ4 e4
  subst e4
  refine ⟨sz s x + 1, ?_⟩
  rw [mI_sR, mI_no (by omega), hi.psz]
  have h0 : PR (sR (sI μ (ι x) 4 (nI a)) 3 a (some (ι x))) (pg (ucel s (put (cel s) a 0 x))) := by
    rw [put_0]
    exact h.pl.frame (fun r hr => mI_ne (by omega))
  refine c_occupy_loop (x := x) ha hx2 hs hfree (sz s x) 0 _ (by omega) h0 (fun μ1 hP hF l => ?_)
  have f : ∀ r, r ≠ 3 → r ≠ 5 → r ≠ ι x → mI μ1 r = mI μ r ∧ mR μ1 r = mR μ r := by
    intro r q1 q2 q3
    have := hF.2.2 r (by unfold r5; omega)
    exact ⟨this.1.trans (mI_ne q3), this.2.trans (mR_ne q1)⟩
  have fx : mI μ1 (ι x) = mI (sI μ (ι x) 4 (nI a)) (ι x) := (hF.2.2 (ι x) (by unfold r5; omega)).1
  have hFa : Fr cmS μ μ1 := ((Fr.sI (S := cmS) (by unfold cmS; omega)).trans (Fr.sR (by unfold cmS; omega))).trans (hF.mono (fun r hr => by unfold r5 at hr; unfold cmS; omega))
  refine hp μ1 ?_ hFa
  have f0 : mI μ1 0 = mI μ 0 := (f 0 (by omega) (by omega) (by omega)).1
  have far := h.far hx hx
  refine h.mk hFa (fun y hy => ?_) (fun c hc => ?_) ?_ ?_ ?_ ?_ ?_ ?_ ?_ ?_ ?_
  · have hj := h.it y hy
    have j35 := hj.i35
    by_cases e : y = x
    · subst e
      refine ⟨hj.i35, hFa.ok hj.o, hFa.ok hj.o1, hFa.ok hj.o2, ?_, ?_, ?_, ?_, ?_, ?_, ?_, ?_, ?_⟩
      · rw [(hFa.2.1 _).2]; exact hj.l1
      · rw [(hFa.2.1 _).2]; exact hj.l2
      · rw [fx, mI_no (by omega)]; exact hj.psz
      · rw [fx, mI_no (by omega)]; exact hj.ptg
      · rw [fx, mI_sI_self]; exact congrArg nI (up_self (ad s) y a).symm
      · rw [fx, mI_no (by omega)]; exact hj.pct
      · rw [fx, mI_no (by omega)]; exact hj.pco
      · rw [(f (ι y + 1) (by omega) (by omega) (by omega)).2]; exact hj.pfl
      · rw [(f (ι y + 2) (by omega) (by omega) (by omega)).1]; exact hj.plg
    · have hf := h.far hx hy
      exact hj.frame hFa (f _ (by omega) (by omega) (fun z => e (h.inj y x hy hx z))).1 (f _ (by omega) (by omega) hf.1).2 (f _ (by omega) (by omega) hf.2.1).1 rfl rfl (up_ne e) rfl rfl rfl rfl
  · have e3 : mR μ1 3 = mR (sR (sI μ (ι x) 4 (nI a)) 3 a (some (ι x))) 3 := (hF.2.2 3 (by unfold r5; omega)).2
    rw [e3, mR_sR, mR_sI, obj_lay hn hno hfree]
    by_cases e : c = a
    · rw [if_pos ⟨rfl, e⟩, if_pos e]; rfl
    · rw [if_neg (fun z => e z.2), if_neg e]
      exact h.pat c hc
  · rw [(f 1 (by omega) (by omega) (by omega)).2]; exact h.prt
  · rw [(f 2 (by omega) (by omega) (by omega)).2]; exact h.pbf
  · exact hP
  · exact h.wt.frame (f 13 (by omega) (by omega) (by omega)).1 (f 14 (by omega) (by omega) (by omega)).2
  · exact h.plo.frame (f 9 (by omega) (by omega) (by omega)).1 (f 10 (by omega) (by omega) (by omega)).2 (f 11 (by omega) (by omega) (by omega)).1 (f 12 (by omega) (by omega) (by omega)).2
  · rw [f0]; exact h.ptr
  · rw [f0]; exact h.pps
  · rw [f0]; exact h.pmv
  · rw [f0]; exact h.pwh
theorem CR.w_mv {μ : Mem} {s : St} {ι : Nat → Nat} {d : Int32} {P : Nat → Prop} (h : CR μ s ι d P) {v : Int32} : CR (sI μ 0 9 v) (umv s v) ι d P := by
  have f : ∀ r, r ≠ 0 → mI (sI μ 0 9 v) r = mI μ r := fun r hr => mI_ne hr
  refine h.mk (S := fun r => r = 0) (Fr.sI rfl) (fun x hx => ?_) h.pat h.prt h.pbf (h.pl.frame (fun r hr => f r (by omega))) (h.wt.frame (f 13 (by omega)) rfl) (h.plo.frame (f 9 (by omega)) rfl (f 11 (by omega)) rfl) ((mI_no (by decide)).trans h.ptr) ((mI_no (by decide)).trans h.pps) (mI_sI_self _ _ _ _) ((mI_no (by decide)).trans h.pwh)
  have hi := h.it x hx
  have h35 := hi.i35
  exact hi.frame (S := fun r => r = 0) (Fr.sI rfl) (f _ (by omega)) rfl (f _ (by omega)) rfl rfl rfl rfl rfl rfl rfl
theorem CR.w_wh {μ : Mem} {s : St} {ι : Nat → Nat} {d : Int32} {P : Nat → Prop} (h : CR μ s ι d P) {v : Int32} : CR (sI μ 0 10 v) (uwh s v) ι d P := by
  have f : ∀ r, r ≠ 0 → mI (sI μ 0 10 v) r = mI μ r := fun r hr => mI_ne hr
  refine h.mk (S := fun r => r = 0) (Fr.sI rfl) (fun x hx => ?_) h.pat h.prt h.pbf (h.pl.frame (fun r hr => f r (by omega))) (h.wt.frame (f 13 (by omega)) rfl) (h.plo.frame (f 9 (by omega)) rfl (f 11 (by omega)) rfl) ((mI_no (by decide)).trans h.ptr) ((mI_no (by decide)).trans h.pps) ((mI_no (by decide)).trans h.pmv) (mI_sI_self _ _ _ _)
  have hi := h.it x hx
  have h35 := hi.i35
  exact hi.frame (S := fun r => r = 0) (Fr.sI rfl) (f _ (by omega)) rfl (f _ (by omega)) rfl rfl rfl rfl rfl rfl rfl
theorem CR.w_tr {μ : Mem} {s : St} {ι : Nat → Nat} {d : Int32} {P : Nat → Prop} (h : CR μ s ι d P) {v : Nat} : CR (sI μ 0 7 (nI v)) (utr s v) ι d P := by
  have f : ∀ r, r ≠ 0 → mI (sI μ 0 7 (nI v)) r = mI μ r := fun r hr => mI_ne hr
  refine h.mk (S := fun r => r = 0) (Fr.sI rfl) (fun x hx => ?_) h.pat h.prt h.pbf (h.pl.frame (fun r hr => f r (by omega))) (h.wt.frame (f 13 (by omega)) rfl) (h.plo.frame (f 9 (by omega)) rfl (f 11 (by omega)) rfl) (mI_sI_self _ _ _ _) ((mI_no (by decide)).trans h.pps) ((mI_no (by decide)).trans h.pmv) ((mI_no (by decide)).trans h.pwh)
  have hi := h.it x hx
  have h35 := hi.i35
  exact hi.frame (S := fun r => r = 0) (Fr.sI rfl) (f _ (by omega)) rfl (f _ (by omega)) rfl rfl rfl rfl rfl rfl rfl
def mvd (s : St) (x a : Nat) : St := umv (lay (mvo s x) x a) (mv s + 1)
theorem c_moveTo {x a : Nat} {post : Mem → Prop} {μ : Mem} {s : St} {ι : Nat → Nat} {d : Int32} {P : Nat → Prop} (h : CR μ s ι d P) (hx : P x) (hx2 : x < 256) (ho : own s x) (ha : a + sz s x ≤ 128) (hfree : ∀ j, a ≤ j → j < a + sz s x → cel s j = none) (hs : small s)
    (hp : ∀ μ1, CR μ1 (mvd s x a) ι d P → Fr cmS μ μ1 → post μ1) : wC_moveTo (ι x) (nI a) post μ := by
  obtain ⟨o1, o2, o3, o4⟩ := ho
  have hi := h.it x hx
  have h35 := hi.i35
  unfold wC_moveTo wP_moveOut
  refine ⟨fun q => absurd q (nI_m1 (by omega)), fun _ => ?_⟩
  rw [hi.pad, nI_clamp (by omega)]
  refine ⟨hi.o, (nI_vp (by omega)).mpr (by omega), ?_⟩
  intro μ3 e3
  subst e3
  refine ⟨sz s x + 1, ?_⟩
  rw [mI_sR, mI_sR, hi.pad, hi.psz]
  have h0 : PR (sR μ 3 (ad s x) none) (pg (ulf (ucel s (clr (cel s) (ad s x) 0)) (mrk (lf s) (ad s x) 0))) := by
    rw [clr_0, mrk_0]
    exact h.pl.frame (fun r _ => rfl)
  refine c_moveOut_loop (x := x) o3 hs (fun j h1 h2 => (o4 j).mpr ⟨h1, h2⟩) (sz s x) 0 _ (by omega) h0 (fun μ1 hP hF l => ?_)
  have hF3 : Fr rmS μ μ1 := (Fr.sR (S := rmS) (Or.inl rfl)).trans (hF.mono (fun r hr => Or.inr hr))
  have hC : CR μ1 (mvo s x) ι d P := by
    refine h.rm (x := x) hF3 (fun a ha => ?_) hP (by unfold mvo; simp only [q_cel_ulf, q_sta_ulf, q_ad_ulf, q_sz_ulf, q_tg_ulf, q_ct_ulf, q_co_ulf, q_fl_ulf, q_lg_ulf, q_nx_ulf, q_rt_ulf, q_bf_ulf, q_hf_ulf, q_he_ulf, q_hc_ulf, q_ov_ulf, q_oc_ulf, q_cl_ulf, q_lf_ulf, q_row_ulf, q_log_ulf, q_tr_ulf, q_ps_ulf, q_mv_ulf, q_wh_ulf, q_cel_ucel, q_sta_ucel, q_ad_ucel, q_sz_ucel, q_tg_ucel, q_ct_ucel, q_co_ucel, q_fl_ucel, q_lg_ucel, q_nx_ucel, q_rt_ucel, q_bf_ucel, q_hf_ucel, q_he_ucel, q_hc_ucel, q_ov_ucel, q_oc_ucel, q_cl_ucel, q_lf_ucel, q_row_ucel, q_log_ucel, q_tr_ucel, q_ps_ucel, q_mv_ucel, q_wh_ucel, and_self])
    have e3 : mR μ1 3 = mR (sR μ 3 (ad s x) none) 3 := (hF.2.2 3 (by unfold r56; omega)).2
    rw [e3, mR_sR, obj_mvo ⟨o1, o2, o3, o4⟩]
    by_cases e : a = ad s x
    · rw [if_pos ⟨rfl, e⟩, if_pos e]; rfl
    · rw [if_neg (fun z => e z.2), if_neg e]
      exact h.pat a ha
  have ec : cel (mvo s x) = clr (cel s) (ad s x) (sz s x) := rfl
  have ez : sz (mvo s x) = sz s := rfl
  refine c_settle hC hx hx2 (by rw [ez]; exact o1) (by rw [ez]; exact ha) (fun j hj => ?_) (fun j h1 h2 => ?_) (small_clr hs) (fun μ2 hC2 hF2 => ?_)
  · rw [ec] at hj
    unfold clr at hj
    split at hj
    · cases hj
    · rename_i hn
      exact hn ((o4 j).mp hj)
  · rw [ec]
    unfold clr
    split
    · rfl
    · exact hfree j h1 (by rw [ez] at h2; exact h2)
  · intro μ6 e6
    subst e6
    refine hp _ ?_ (((hF3.mono rm_cm).trans hF2).trans (Fr.sI (by unfold cmS; omega)))
    rw [hC2.pmv]
    exact hC2.w_mv
