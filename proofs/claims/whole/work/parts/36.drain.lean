/-! One decrement, many: both sides -/
def dr1 (s : St) : St := match row s with
  | [] => s
  | x :: l => if ct s x = 3 then urow s l else if ct s x = 1 then van (uct (urow s l) (up (ct s) x 0)) x else uct (urow s l) (up (ct s) x (ct s x - 1))
/-- what a decrement needs -/
def gdD (s : St) : Prop := Wf s ∧ Bd s ∧ (row s).length ≤ 262 ∧ ∀ x l, row s = x :: l → sta s x = 2 ∧ 1 ≤ ct s x ∧ (ct s x = 1 → l.length + sz s x ≤ 262 ∧ ∀ i y, i < sz s x → fl s x i = some y → y ≠ x ∧ sta s y ≠ 0 ∧ (0 < ct s y ↔ sta s y = 2))
theorem dr1_3 {s : St} {x : Nat} {l : List Nat} (h : row s = x :: l) (h3 : ct s x = 3) : dr1 s = urow s l := by
  unfold dr1
  rw [h]
  exact if_pos h3
theorem dr1_1 {s : St} {x : Nat} {l : List Nat} (h : row s = x :: l) (h1 : ct s x = 1) : dr1 s = van (uct (urow s l) (up (ct s) x 0)) x := by
  unfold dr1
  rw [h]
  exact (if_neg (by omega)).trans (if_pos h1)
theorem dr1_2 {s : St} {x : Nat} {l : List Nat} (h : row s = x :: l) (h3 : ¬ ct s x = 3) (h1 : ¬ ct s x = 1) : dr1 s = uct (urow s l) (up (ct s) x (ct s x - 1)) := by
  unfold dr1
  rw [h]
  exact (if_neg h3).trans (if_neg h1)
theorem m_row_loop {l : List Nat} (hl : l.length < 700) {μ2 : Mem} {K : Int32 → Mem → Prop} (hN : mI μ2 17 21 = nI l.length) : ∀ (e k : Nat) (μ : Mem), k + e = l.length → (∀ r j, r ≠ 30 → mI μ r j = mI μ2 r j) → (∀ j y, l[j]? = some y → j < k → mI μ 30 j = nI y) → (∀ j y, l[j]? = some y → k ≤ j → mI μ 30 (j + 1) = nI y) → Fr moS μ2 μ →
    (∀ μ1, (∀ r j, r ≠ 30 → mI μ1 r j = mI μ2 r j) → (∀ j y, l[j]? = some y → mI μ1 30 j = nI y) → Fr moS μ2 μ1 → ∀ v, K v μ1) → wM_drainOne_19 K (e + 1) (nI k) μ := by
  have m30 : moS 30 := by unfold moS; omega
  intro e
  induction e with
  | zero =>
    intro k μ hk f1 f2 f3 f4 h
    unfold wM_drainOne_19
    rw [f1 17 21 (by omega), hN, nI_leI (by omega) (by omega)]
    refine ⟨fun _ => h μ f1 (fun j y hj => f2 j y hj ?_) f4 _, fun q => absurd (by omega) q⟩
    have := (List.getElem?_eq_some_iff.mp hj).1
    omega
  | succ e ih =>
    intro k μ hk f1 f2 f3 f4 h
    unfold wM_drainOne_19
    rw [f1 17 21 (by omega), hN, nI_leI (by omega) (by omega), nI_1, nI_clamp (by omega), nI_clamp (by omega)]
    refine ⟨fun q => absurd q (by omega), fun _ => ⟨(nI_vp (by omega)).mpr (by omega), (nI_vp (by omega)).mpr (by omega), ?_⟩⟩
    intro μ5 e5
    subst e5
    have hk2 : k < l.length := by omega
    have hlk : l[k]? = some l[k] := List.getElem?_eq_getElem hk2
    have f3k := f3 k _ hlk (Nat.le_refl _)
    refine ih (k + 1) _ (by omega) (fun r j hr => (mI_no (fun z => hr z.1)).trans (f1 r j hr)) (fun j y hj hjk => ?_) (fun j y hj hjk => ?_) (f4.trans (Fr.sI m30)) h
    · by_cases w : j = k
      · subst w
        rw [mI_sI_self, f3k]
        rw [hlk] at hj
        rw [Option.some.inj hj]
      · rw [mI_no (fun z => w z.2)]
        exact f2 j y hj (by omega)
    · rw [mI_no (fun z => by have := z.2; omega)]
      exact f3 j y hj (by omega)
theorem m_drainOne {x : Nat} {l : List Nat} {post : Mem → Prop} {μ : Mem} {s : St} (h : MR μ s) (hg : gdD s) (hrow : row s = x :: l) (hp : ∀ μ1, MR μ1 (dr1 s) → Fr moS μ μ1 → post μ1) : wM_drainOne post μ := by
  obtain ⟨hw, hb, hlen, hg⟩ := hg
  obtain ⟨g1, g2, g3⟩ := hg x l hrow
  have hx : sta s x ≠ 0 := by omega
  have hlt := hw.lt hx
  have m17 : moS 17 := by unfold moS; omega
  have m23 : moS 23 := by unfold moS; omega
  have hl1 : l.length + 1 ≤ 262 := by rw [hrow] at hlen; exact hlen
  have pN : mI μ 17 21 = nI (l.length + 1) := by have := h.prowN; rw [hrow] at this; exact this
  have p0 : mI μ 30 0 = nI x := h.prow 0 x (by rw [hrow]; rfl)
  have e0 : (0 : Int32).toNatClampNeg = 0 := rfl
  unfold wM_drainOne
  rw [e0, p0, pN, li_1, nI_sub (by omega), Nat.add_sub_cancel, nI_clamp (by omega)]
  refine ⟨(nI_vp (a := 0) (by omega)).mpr (by omega), ?_⟩
  intro μ2 e2
  subst e2
  refine ⟨l.length + 1, m_row_loop (by omega) (mI_sI_self _ _ _ _) l.length 0 _ (by omega) (fun _ _ _ => rfl) (fun j y _ hj => by omega) (fun j y hj _ => ?_) (Fr.refl _) (fun μ1 f1 f2 f3 v => ?_)⟩
  · rw [mI_no (by omega)]
    exact h.prow (j + 1) y (by rw [hrow]; exact hj)
  · have hM : MR μ1 (urow s l) := by
      refine h.rowset (fun r j h1 h2 => (f1 r j h1).trans (mI_no h2)) ?_ f2
      rw [f1 17 21 (by omega), mI_sI_self]
    have hF : Fr moS μ μ1 := (Fr.sI m17).trans f3
    have q1 : mI μ1 19 x = nI (sta s x) := hM.psta x hlt
    have q2 : mI μ1 23 x = nI (ct s x) := hM.pct x hlt
    have hc3 := hb.2.1 x
    rw [q1, q2, li_2, li_3, nI_eq (by omega) (by omega), nI_leI (by omega) (by omega)]
    refine ⟨(nI_vp (by omega)).mpr hlt, fun _ => ⟨fun q => ?_, fun q => ?_⟩, fun q => absurd g1 q⟩
    · exact hp μ1 (by rw [dr1_3 hrow (by omega)]; exact hM) hF
    · intro μ9 e9
      subst e9
      rw [mI_sI_self, nI_sub (by omega), li_0, nI_eq (by omega) (by omega)]
      have hM2 : MR (sI μ1 23 x (nI (ct s x - 1))) (uct (urow s l) (up (ct s) x (ct s x - 1))) := hM.w_ct (x := x) (v := ct s x - 1)
      refine ⟨fun w => ?_, fun w => ?_⟩
      · have hc1 : ct s x = 1 := by omega
        obtain ⟨k1, k2⟩ := g3 hc1
        rw [hc1] at hM2
        rw [dr1_1 hrow hc1] at hp
        rw [hc1]
        refine m_vanish hM2 hlt (hw.sz12 hx) (hw.end hx) hw.lf1 ⟨hb.1, ?_, hb.2.2.1, hb.2.2.2⟩ (fun i y hi hy => hw.lt (k2 i y hi hy).2.1) k1 (fun μ3 h3 hF3 => hp μ3 h3 ((hF.trans (Fr.sI m23)).trans hF3))
        intro y
        show up (ct s) x (1 - 1) y ≤ 3
        by_cases e : y = x
        · subst e; rw [up_self]; omega
        · rw [up_ne e]; exact hb.2.1 y
      · exact hp _ (by rw [dr1_2 hrow (by omega) (by omega)]; exact hM2) (hF.trans (Fr.sI m23))
def lv (s : St) (x : Nat) : Prop := sta s x ≠ 0
theorem lv_dr1 {s : St} {x : Nat} (h : lv (dr1 s) x) : lv s x := by
  unfold dr1 at h
  split at h
  · exact h
  · split at h
    · exact h
    · split at h
      · exact (up_live (f := sta s) h).2
      · exact h
/-- the class's one decrement: the row's first is taken, and the loop goes on -/
theorem c_drainOne {x : Nat} {l : List Nat} {K : Mem → Prop} {μ : Mem} {s : St} {ι : Nat → Nat} {d : Int32} (h : CR μ s ι d (lv s)) (hg : gdD s) (hrow : row s = x :: l) (hp : ∀ μ1, CR μ1 (dr1 s) ι d (lv (dr1 s)) → Fr clS μ μ1 → K μ1) :
    wW_takeFirst 13 (fun r2 μ1 => ((r2 = none → K μ1) ∧ (∀ y3, r2 = some y3 → okO μ1 y3 5 ∧ (((mI μ1 y3 5) = 3 → K μ1) ∧ (¬ (mI μ1 y3 5) = 3 → ∀ μ5, μ5 = sI μ1 y3 5 ((mI μ1 y3 5) - 1) → (((mI μ5 y3 5) = 0 → wC_letGo y3 (fun μ6 => K μ6) μ5) ∧ (¬ (mI μ5 y3 5) = 0 → K μ5))))))) μ := by
  obtain ⟨hw, hb, hlen, hg⟩ := hg
  obtain ⟨g1, g2, g3⟩ := hg x l hrow
  have hx : sta s x ≠ 0 := by omega
  have hlt := hw.lt hx
  have sub : ∀ y, lv (dr1 s) y → lv s y := fun y hy => lv_dr1 hy
  refine c_take h hrow (fun μ1 h1 hF => ⟨fun q => (by cases q), fun y3 hy3 => ?_⟩)
  have : ι x = y3 := Option.some.inj hy3
  subst this
  have hi := h1.it x hx
  have h35 := hi.i35
  have q2 : mI μ1 (ι x) 5 = nI (ct s x) := hi.pct
  have hc3 := hb.2.1 x
  rw [q2, li_3, nI_eq (by omega) (by omega)]
  refine ⟨hi.o, fun q => ?_, fun q => ?_⟩
  · exact hp μ1 (CR.sub (by rw [dr1_3 hrow q]; exact h1) sub) hF
  · intro μ5 e5
    subst e5
    rw [mI_sI_self, li_1, nI_sub (by omega), li_0, nI_eq (by omega) (by omega)]
    have hM2 : CR (sI μ1 (ι x) 5 (nI (ct s x - 1))) (uct (urow s l) (up (ct s) x (ct s x - 1))) ι d (lv s) := h1.w_ct (x := x) (v := ct s x - 1) hx
    have hF5 : Fr clS μ (sI μ1 (ι x) 5 (nI (ct s x - 1))) := hF.trans (Fr.sI (by unfold clS; omega))
    refine ⟨fun w => ?_, fun w => ?_⟩
    · have hc1 : ct s x = 1 := by omega
      obtain ⟨k1, k2⟩ := g3 hc1
      have e1 := dr1_1 hrow hc1
      have hwu : Wf (uct (urow s l) (up (ct s) x (1 - 1))) := hw.ext rfl (fun _ => Iff.rfl) rfl rfl rfl rfl
      rw [hc1] at hM2 hF5
      rw [hc1]
      refine c_letGo hM2 hx (hwu.ow hx) hwu.sm ⟨hb.1, ?_, hb.2.2.1, hb.2.2.2⟩ (fun i y hi hy => ?_) k1 (fun μ3 h3 hF3 => hp μ3 (CR.sub (by rw [e1]; exact h3) sub) (hF5.trans hF3))
      · intro y
        show up (ct s) x (1 - 1) y ≤ 3
        by_cases e : y = x
        · subst e; rw [up_self]; omega
        · rw [up_ne e]; exact hb.2.1 y
      · obtain ⟨j1, j2, j3⟩ := k2 i y hi hy
        refine ⟨j2, ?_⟩
        show 0 < up (ct s) x (1 - 1) y ↔ sta s y = 2
        rw [up_ne j1]
        exact j3
    · exact hp _ (CR.sub (by rw [dr1_2 hrow (by omega) (by omega)]; exact hM2) sub) hF5
