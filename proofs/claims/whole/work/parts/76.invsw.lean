/-! The white ones lost, the stuck counts taken anew: the abstract steps, and that they keep the invariant -/
def wf1 (s : St) (x : Nat) : List Nat := if sta s x = 2 ∧ co s x = 0 then (hlds s x (sz s x)).filter (fun y => !decide (sta s y = 2 ∧ co s y = 0)) else []
def wfA (s : St) (a : Nat) : List Nat := match obj s a with
  | none => []
  | some x => wf1 s x
def wfs (s : St) : Nat → List Nat
  | 0 => []
  | k + 1 => wfs s k ++ wfA s k
def wct (s : St) : Nat := sm (fun x => if sta s x = 2 ∧ co s x = 0 then 1 else 0) 256
/-- those of Q lost, with this row and this number of white ones -/
noncomputable def nf (s : St) (Q : Nat → Prop) (L : List Nat) (w : Int32) : St := uwh (urow (lsQ s Q) L) w
noncomputable def swp (s : St) : St := nf s (isW s) (row s ++ wfs s 128) (wh s + nI (wct s))
theorem wfA_none {s : St} {a : Nat} (h : obj s a = none) : wfA s a = [] := by unfold wfA; rw [h]
theorem wfA_some {s : St} {a x : Nat} (h : obj s a = some x) : wfA s a = wf1 s x := by unfold wfA; rw [h]
theorem wfs_len (s : St) : ∀ k, (wfs s k).length = sm (wAt s (fun x => (wf1 s x).length)) k := by
  intro k
  induction k with
  | zero => rfl
  | succ k ih =>
    show (wfs s k ++ wfA s k).length = sm (wAt s (fun x => (wf1 s x).length)) k + wAt s (fun x => (wf1 s x).length) k
    rw [List.length_append, ih]
    cases e : obj s k with
    | none => rw [wfA_none e, wAt_none e]; rfl
    | some x => rw [wfA_some e, wAt_some e]
theorem wfs_count (s : St) (y : Nat) : ∀ k, (wfs s k).count y = sm (wAt s (fun x => (wf1 s x).count y)) k := by
  intro k
  induction k with
  | zero => rfl
  | succ k ih =>
    show (wfs s k ++ wfA s k).count y = sm (wAt s (fun x => (wf1 s x).count y)) k + wAt s (fun x => (wf1 s x).count y) k
    rw [List.count_append, ih]
    cases e : obj s k with
    | none => rw [wfA_none e, wAt_none e]; rfl
    | some x => rw [wfA_some e, wAt_some e]
theorem wf1_mem {s : St} {x y : Nat} (h : y ∈ wf1 s x) : isW s x ∧ (∃ i, i < sz s x ∧ fl s x i = some y) ∧ ¬ isW s y := by
  unfold wf1 at h
  by_cases e : sta s x = 2 ∧ co s x = 0
  · rw [if_pos e] at h
    obtain ⟨h1, h2⟩ := List.mem_filter.mp h
    refine ⟨e, hlds_mem.mp h1, fun q => ?_⟩
    have q' : sta s y = 2 ∧ co s y = 0 := q
    simp [q'] at h2
  · rw [if_neg e] at h
    cases h
theorem wfs_mem {s : St} {y : Nat} : ∀ {k : Nat}, y ∈ wfs s k → ∃ x, isW s x ∧ (∃ i, i < sz s x ∧ fl s x i = some y) ∧ ¬ isW s y := by
  intro k
  induction k with
  | zero => intro h; cases h
  | succ k ih =>
    intro h
    rcases List.mem_append.mp h with q | q
    · exact ih q
    · cases e : obj s k with
      | none => rw [wfA_none e] at q; cases q
      | some x => rw [wfA_some e] at q; exact ⟨x, wf1_mem q⟩
theorem wf1_len (s : St) (x : Nat) : (wf1 s x).length ≤ if sta s x = 2 ∧ co s x = 0 then sz s x else 0 := by
  unfold wf1
  split
  · exact Nat.le_trans (List.length_filter_le _ _) (hlds_len _ _ _)
  · exact Nat.le_refl _
theorem wf1_count {s : St} {x y : Nat} (hy : ¬ isW s y) : (wf1 s x).count y = if sta s x = 2 ∧ co s x = 0 then fc (fl s x) y (sz s x) else 0 := by
  unfold wf1
  split
  · have hd : (!decide (sta s y = 2 ∧ co s y = 0)) = true := by
      rw [decide_eq_false (show ¬ (sta s y = 2 ∧ co s y = 0) from hy)]
      rfl
    rw [List.count_filter (p := fun y => !decide (sta s y = 2 ∧ co s y = 0)) hd, hlds_count]
  · rfl
/-- nothing young, nothing logged -/
def NY (s : St) : Prop := (∀ x, sta s x ≠ 0 → sta s x = 2) ∧ ∀ x i, sta s x = 2 → i < sz s x → lg s x i = 0
theorem noW {s : St} {g : Nat → Nat → Option Nat} {S T : Nat → Prop} (hT : IT s g S T) (htr : tr s ≠ 0) (hn : ∀ x, sta s x = 2 → co s x ≠ 1) (hy : NY s) {y : Nat} (h : T y) : ¬ isW s y := by
  intro hw
  refine (hT.2 htr).2.2.2.2 (fun _ => False) ?_ y h hw
  intro x i z hx hi _ hq
  rcases hq with q | q | q
  · have := hy.2 x i hx hi; omega
  · exact hn x hx q
  · exact q.1
theorem swp_st {s : St} {y : Nat} : (sta (swp s) y = 2 ↔ sta s y = 2 ∧ ¬ isW s y) ∧ (sta (swp s) y = 1 ↔ sta s y = 1) := by
  have e : sta (swp s) y = lsT s (isW s) y := rfl
  rw [e]
  by_cases q : isW s y
  · rw [lsT_pos q]
    have q1 : sta s y = 2 := q.1
    exact ⟨⟨fun z => by omega, fun z => absurd q z.2⟩, ⟨fun z => by omega, fun z => by omega⟩⟩
  · rw [lsT_neg q]
    exact ⟨⟨fun z => ⟨z, q⟩, fun z => z.1⟩, Iff.rfl⟩
theorem inv_swp {s : St} {β : Nat → Option Nat} (h : InvT s β) (htr : tr s ≠ 0) (hn : ∀ x, sta s x = 2 → co s x ≠ 1) (hy : NY s) : InvT (swp s) β ∧ NY (swp s) ∧ (∀ x, sta (swp s) x = 2 → co (swp s) x ≠ 1) := by
  obtain ⟨g, S, T, ⟨⟨hw, hb, ha, hl, hr⟩, hL, hC, hS, hT⟩, hrT⟩ := h
  have nW : ∀ y, T y → ¬ isW s y := fun y q => noW hT htr hn hy q
  obtain ⟨t1, t2, t3, t4, t5⟩ := hT.2 htr
  have Tn : ∀ y, sta s y = 2 → ¬ isW s y → T y := by
    intro y h2 hw
    exact t2 y h2 (fun e => hw ⟨h2, e⟩)
  have hg : ∀ x i, sta s x = 2 → i < sz s x → fl s x i = g x i := fun x i hx hi => hL.1 x i hx hi (hy.2 x i hx hi)
  have hww : Wf (swp s) := (wf_ls hw (isW s)).ext rfl (fun _ => Iff.rfl) rfl rfl rfl rfl
  have e_row : row (swp s) = row s ++ wfs s 128 := rfl
  have e_sz : sz (swp s) = sz s := rfl
  have e_co : co (swp s) = co s := rfl
  refine ⟨⟨g, S, T, ⟨⟨hww, ⟨?_, hb.2.1, hb.2.2.1, hb.2.2.2⟩, ?_, ?_, ?_⟩, ⟨?_, hL.2.1, ?_, hL.2.2.2.1, ?_⟩, ⟨?_, ?_⟩, ⟨?_, hS.2.1, hS.2.2.1, hS.2.2.2.1, ?_, ?_⟩, fun e => absurd e htr, fun _ => ⟨?_, ?_, t3, t4, ?_⟩⟩, ?_⟩, ⟨?_, ?_⟩, ?_⟩
  · intro x
    show lsT s (isW s) x ≤ 2
    by_cases q : isW s x
    · rw [lsT_pos q]; omega
    · rw [lsT_neg q]; exact hb.1 x
  · intro x hx
    have hx' : lsT s (isW s) x ≠ 0 := hx
    obtain ⟨q1, q2⟩ := lsT_live.mp hx'
    rcases ha x q1 with ⟨w1, w2, w3⟩ | ⟨w1, w2⟩
    · exact Or.inl ⟨swp_st.2.mpr w1, w2, w3⟩
    · exact Or.inr ⟨swp_st.1.mpr ⟨w1, q2⟩, w2⟩
  · rw [e_row, List.length_append, wfs_len, sum_at hw]
    have h1 : sm (wLv s (fun x => (wf1 s x).length)) 256 + osz (swp s) ≤ osz s := by
      unfold osz
      rw [← sm_add]
      refine sm_le (fun x _ => ?_)
      have hl1 := wf1_len s x
      rw [e_sz]
      by_cases e2 : sta s x = 2
      · by_cases e0 : co s x = 0
        · rw [if_pos ⟨e2, e0⟩] at hl1
          rw [if_neg (fun q => (swp_st.1.mp q).2 ⟨e2, e0⟩), if_pos e2]
          unfold wLv
          rw [if_neg (by omega)]
          dsimp only
          omega
        · rw [if_neg (fun q => e0 q.2)] at hl1
          rw [if_pos (swp_st.1.mpr ⟨e2, fun q => e0 q.2⟩), if_pos e2]
          unfold wLv
          rw [if_neg (by omega)]
          dsimp only
          omega
      · rw [if_neg (fun q => e2 q.1)] at hl1
        rw [if_neg (fun q => e2 (swp_st.1.mp q).1), if_neg e2]
        unfold wLv
        dsimp only
        split <;> omega
    omega
  · intro y hyr
    rw [e_row] at hyr
    rw [swp_st.1]
    rcases List.mem_append.mp hyr with q | q
    · exact ⟨hr y q, nW y (hrT htr y q)⟩
    · obtain ⟨x, q1, ⟨i, hi, hf⟩, q3⟩ := wfs_mem q
      rw [hg x i q1.1 hi] at hf
      exact ⟨hC.1 x i y q1.1 hi hf, q3⟩
  · intro x i hx hi hlg
    exact hL.1 x i (swp_st.1.mp hx).1 hi hlg
  · intro x i hx hi hlg
    exact hL.2.2.1 x i (swp_st.1.mp hx).1 hi hlg
  · intro x i hx
    exact hL.2.2.2.2 x i (swp_st.2.mp hx)
  · intro x i y hx hi hgy
    obtain ⟨q1, q2⟩ := swp_st.1.mp hx
    rw [swp_st.1]
    exact ⟨hC.1 x i y q1 hi hgy, nW y (t4 x i y (Tn x q1 q2) hi hgy)⟩
  · intro y hy2 hct
    obtain ⟨q1, q2⟩ := swp_st.1.mp hy2
    have h1 := hC.2 y q1 hct
    show Hn (swp s) β g y = ct s y
    rw [← h1]
    unfold Hn
    rw [e_row, List.count_append, wfs_count, sum_at hw]
    have h2 : sm (wLv s (fun x => (wf1 s x).count y)) 256 + hG (swp s) g y = hG s g y := by
      unfold hG
      rw [← sm_add]
      refine sm_congr (fun x _ => ?_)
      rw [e_sz]
      by_cases e2 : sta s x = 2
      · by_cases e0 : co s x = 0
        · rw [if_neg (fun q => (swp_st.1.mp q).2 ⟨e2, e0⟩), if_pos e2]
          unfold wLv
          rw [if_neg (by omega)]
          dsimp only
          rw [wf1_count q2, if_pos ⟨e2, e0⟩, fc_congr (fun i hi => hg x i e2 hi)]
          omega
        · rw [if_pos (swp_st.1.mpr ⟨e2, fun q => e0 q.2⟩), if_pos e2]
          unfold wLv
          rw [if_neg (by omega)]
          dsimp only
          rw [wf1_count q2, if_neg (fun q => e0 q.2)]
          omega
      · rw [if_neg (fun q => e2 (swp_st.1.mp q).1), if_neg e2]
        unfold wLv
        split
        · omega
        · dsimp only
          rw [wf1_count q2, if_neg (fun q => e2 q.1)]
    omega
  · intro y q
    exact swp_st.1.mpr ⟨hS.1 y q, nW y (t3 y q)⟩
  · intro r y hr6 e
    rw [swp_st.2]
    exact hS.2.2.2.2.1 r y hr6 e
  · intro x i y hx hi hf
    rw [swp_st.2] at hx ⊢
    exact hS.2.2.2.2.2 x i y hx hi hf
  · intro y q
    exact swp_st.1.mpr ⟨t1 y q, nW y q⟩
  · intro y q1 q2
    exact t2 y (swp_st.1.mp q1).1 q2
  · intro C _ y q1 q2
    exact absurd ⟨(swp_st.1.mp q2.1).1, q2.2⟩ (nW y q1)
  · intro _ y hyr
    rw [e_row] at hyr
    rcases List.mem_append.mp hyr with q | q
    · exact hrT htr y q
    · obtain ⟨x, q1, ⟨i, hi, hf⟩, q3⟩ := wfs_mem q
      rw [hg x i q1.1 hi] at hf
      exact Tn y (hC.1 x i y q1.1 hi hf) q3
  · intro x hx
    have hx' : lsT s (isW s) x ≠ 0 := hx
    obtain ⟨q1, q2⟩ := lsT_live.mp hx'
    exact swp_st.1.mpr ⟨hy.1 x q1, q2⟩
  · intro x i hx hi
    exact hy.2 x i (swp_st.1.mp hx).1 hi
  · intro x hx
    exact hn x (swp_st.1.mp hx).1
def hol (s : St) (x : Nat) : Nat := fc (rt s) x 6 + sm (fun y => if sta s y = 0 then 0 else fc (fl s y) x (sz s y)) 256 + (row s).count x
def rc1 (s : St) (x : Nat) : St := if hol s x = 0 then van (uct s (up (ct s) x 0)) x else uct s (up (ct s) x (if hol s x < 3 then hol s x else 3))
def rcN (s : St) : Nat → St
  | 0 => s
  | k + 1 => match obj (rcN s k) k with
    | none => rcN s k
    | some x => if ct (rcN s k) x = 3 then rc1 (rcN s k) x else rcN s k
/-- what holds while the stuck counts are taken anew -/
def InvR (s : St) : Prop := Inv s (rt s) ∧ NY s
theorem hol_Hn {s : St} {g : Nat → Nat → Option Nat} {S : Nat → Prop} (hL : IG s g S) (hy : NY s) (x : Nat) : hol s x = Hn s (rt s) g x := by
  have : sm (fun y => if sta s y = 0 then 0 else fc (fl s y) x (sz s y)) 256 = hG s g x := by
    refine sm_congr (fun y _ => ?_)
    by_cases e : sta s y = 0
    · rw [if_pos e, if_neg (by omega)]
    · have e2 := hy.1 y e
      rw [if_neg e, if_pos e2]
      exact fc_congr (fun i hi => hL.1 y i e2 hi (hy.2 y i e2 hi))
  unfold hol Hn
  rw [this]
theorem inv_rc1 {s : St} (h : InvR s) {x : Nat} (h2 : sta s x = 2) : InvR (rc1 s x) := by
  obtain ⟨⟨g, S, T, ⟨hw, hb, ha, hl, hr⟩, hL, hC, hS, hT⟩, hy⟩ := h
  have hol_e := hol_Hn hL hy x
  unfold rc1
  by_cases e : hol s x = 0
  · rw [if_pos e]
    have h0 := e
    rw [hol_e] at h0
    unfold Hn at h0
    have k0 : ∀ r, r < 6 → rt s r ≠ some x := by
      intro r hr6 q
      have := fc_pos hr6 q
      omega
    have k1 : ∀ y i, sta s y = 2 → i < sz s y → g y i ≠ some x := by
      intro y i hy2 hi q
      have := hG_mem (hw.lt (show sta s y ≠ 0 by omega)) hy2 hi q
      omega
    have k2 : x ∉ row s := fun q => by
      have := List.count_pos_iff.mpr q
      omega
    have k3 : ¬ S x := by
      intro q
      rcases hS.2.2.2.1 x q with ⟨r, hr6, q⟩ | ⟨y, i, q1, hi, q⟩
      · exact k0 r hr6 q
      · exact k1 y i (hS.1 y q1) hi q
    obtain ⟨T', hI⟩ := inv_van (l := row s) (u := uct s (up (ct s) x 0)) (β := rt s) hw hb ha hl hL hC.1 hS hT h2 rfl (fun y _ hy2 hc => hC.2 y hy2 hc) hr k1 k2 k3
    refine ⟨⟨g, S, T', hI⟩, ?_, ?_⟩
    · intro y hy2
      have : sta (van (uct s (up (ct s) x 0)) x) = up (sta s) x 0 := rfl
      rw [this] at hy2 ⊢
      have ex : y ≠ x := fun q => hy2 (by rw [q, up_self])
      rw [up_ne ex] at hy2 ⊢
      exact hy.1 y hy2
    · intro y i hy2 hi
      have : sta (van (uct s (up (ct s) x 0)) x) = up (sta s) x 0 := rfl
      rw [this] at hy2
      have ex : y ≠ x := fun q => by rw [q, up_self] at hy2; omega
      rw [up_ne ex] at hy2
      exact hy.2 y i hy2 hi
  · rw [if_neg e]
    refine ⟨⟨g, S, T, ⟨hw.ext rfl (fun _ => Iff.rfl) rfl rfl rfl rfl, ⟨hb.1, ?_, hb.2.2⟩, ?_, hl, hr⟩, hL, ⟨hC.1, ?_⟩, hS, hT⟩, hy⟩
    · intro y
      show up (ct s) x (if hol s x < 3 then hol s x else 3) y ≤ 3
      rw [up_eq]
      split
      · split <;> omega
      · exact hb.2.1 y
    · intro y hy2
      show (sta s y = 1 ∧ up (ct s) x (if hol s x < 3 then hol s x else 3) y = 0 ∧ co s y = 0) ∨ (sta s y = 2 ∧ 1 ≤ up (ct s) x (if hol s x < 3 then hol s x else 3) y)
      by_cases ex : y = x
      · subst ex
        rw [up_self]
        exact Or.inr ⟨h2, by split <;> omega⟩
      · rw [up_ne ex]
        exact ha y hy2
    · intro y hy2 hct
      have hct' : up (ct s) x (if hol s x < 3 then hol s x else 3) y < 3 := hct
      show Hn s (rt s) g y = up (ct s) x (if hol s x < 3 then hol s x else 3) y
      by_cases ex : y = x
      · subst ex
        rw [up_self] at hct' ⊢
        by_cases q : hol s y < 3
        · rw [if_pos q]
          exact hol_e.symm
        · rw [if_neg q] at hct'
          omega
      · rw [up_ne ex] at hct' ⊢
        exact hC.2 y hy2 hct'
theorem rcN_none {s : St} {k : Nat} (h : obj (rcN s k) k = none) : rcN s (k + 1) = rcN s k := by
  conv => lhs; unfold rcN
  rw [h]
theorem rcN_some {s : St} {k x : Nat} (h : obj (rcN s k) k = some x) : rcN s (k + 1) = if ct (rcN s k) x = 3 then rc1 (rcN s k) x else rcN s k := by
  conv => lhs; unfold rcN
  rw [h]
theorem inv_rcN {s : St} (h : InvR s) (k : Nat) : InvR (rcN s k) := by
  induction k with
  | zero => exact h
  | succ k ih =>
    cases e : obj (rcN s k) k with
    | none => rw [rcN_none e]; exact ih
    | some x =>
      rw [rcN_some e]
      split
      · obtain ⟨g, S, T, h0, -⟩ := ih.1
        exact inv_rc1 ih (ih.2.1 x (obj_live h0.1 e).1)
      · exact ih
theorem rc1_same (s : St) (x : Nat) : bf (rc1 s x) = bf s ∧ rt (rc1 s x) = rt s ∧ cl (rc1 s x) = cl s ∧ lf (rc1 s x) = lf s ∧ tr (rc1 s x) = tr s := by
  unfold rc1
  split
  · exact ⟨rfl, rfl, rfl, rfl, rfl⟩
  · exact ⟨rfl, rfl, rfl, rfl, rfl⟩
theorem rcN_same (s : St) (k : Nat) : bf (rcN s k) = bf s ∧ rt (rcN s k) = rt s ∧ cl (rcN s k) = cl s ∧ lf (rcN s k) = lf s ∧ tr (rcN s k) = tr s := by
  induction k with
  | zero => exact ⟨rfl, rfl, rfl, rfl, rfl⟩
  | succ k ih =>
    cases e : obj (rcN s k) k with
    | none => rw [rcN_none e]; exact ih
    | some x =>
      rw [rcN_some e]
      split
      · obtain ⟨a1, a2, a3, a4, a5⟩ := ih
        obtain ⟨b1, b2, b3, b4, b5⟩ := rc1_same (rcN s k) x
        exact ⟨b1.trans a1, b2.trans a2, b3.trans a3, b4.trans a4, b5.trans a5⟩
      · exact ih
