/-! The log and the roots of the last pause are queued: both sides -/
theorem CR.w_lg {μ : Mem} {s : St} {ι : Nat → Nat} {d : Int32} {P : Nat → Prop} (h : CR μ s ι d P) {x i v : Nat} (hx : P x) : CR (sI μ (ι x + 2) i (nI v)) (ulg s (up2 (lg s) x i v)) ι d P := by
  have h35 := (h.it x hx).i35
  have f : ∀ r, r < 35 → mI (sI μ (ι x + 2) i (nI v)) r = mI μ r := fun r hr => mI_ne (by omega)
  refine h.mk frI (fun y hy => ?_) h.pat h.prt h.pbf (h.pl.frame (fun r hr => f r (by omega))) (h.wt.frame (f 13 (by omega)) rfl) (h.plo.frame (f 9 (by omega)) rfl (f 11 (by omega)) rfl) ?_ ?_ ?_ ?_
  · have hj := h.it y hy
    have hf := h.far hx hy
    by_cases e : y = x
    · subst e
      refine ⟨hj.i35, hj.o, hj.o1, hj.o2, hj.l1, hj.l2, (mI_no (by omega)).trans hj.psz, (mI_no (by omega)).trans hj.ptg, (mI_no (by omega)).trans hj.pad, (mI_no (by omega)).trans hj.pct, (mI_no (by omega)).trans hj.pco, hj.pfl, fun k hk => ?_⟩
      show _ = nI (up2 (lg s) y i v y k)
      rw [mI_sI, up2_eq]
      by_cases w : k = i
      · subst w
        rw [if_pos ⟨rfl, rfl⟩, if_pos ⟨rfl, rfl⟩]
      · rw [if_neg (fun z => w z.2), if_neg (fun z => w z.2)]
        exact hj.plg k hk
    · refine hj.frame frI (mI_ne hf.2.2.2.2.1) rfl (mI_ne (fun z => e (h.inj y x hy hx (by omega)))) rfl rfl rfl rfl rfl rfl ?_
      funext k
      show up2 (lg s) x i v y k = lg s y k
      rw [up2_eq, if_neg (fun z => e z.1)]
  · rw [f 0 (by omega)]; exact h.ptr
  · rw [f 0 (by omega)]; exact h.pps
  · rw [f 0 (by omega)]; exact h.pmv
  · rw [f 0 (by omega)]; exact h.pwh
theorem CR.w_fl {μ : Mem} {s : St} {ι : Nat → Nat} {d : Int32} {P : Nat → Prop} (h : CR μ s ι d P) {x i : Nat} {v : Option Nat} (hx : P x) : CR (sR μ (ι x + 1) i (v.map ι)) (ufl s (up2 (fl s) x i v)) ι d P := by
  have h35 := (h.it x hx).i35
  have f : ∀ r, r < 35 → mR (sR μ (ι x + 1) i (v.map ι)) r = mR μ r := fun r hr => mR_ne (by omega)
  refine h.mk frR (fun y hy => ?_) ?_ ?_ ?_ (h.pl.frame (fun r hr => rfl)) (h.wt.frame rfl (f 14 (by omega))) (h.plo.frame rfl (f 10 (by omega)) rfl (f 12 (by omega))) h.ptr h.pps h.pmv h.pwh
  · have hj := h.it y hy
    have hf := h.far hx hy
    by_cases e : y = x
    · subst e
      refine ⟨hj.i35, hj.o, hj.o1, hj.o2, hj.l1, hj.l2, hj.psz, hj.ptg, hj.pad, hj.pct, hj.pco, fun k hk => ?_, hj.plg⟩
      show _ = (up2 (fl s) y i v y k).map ι
      rw [mR_sR, up2_eq]
      by_cases w : k = i
      · subst w
        rw [if_pos ⟨rfl, rfl⟩, if_pos ⟨rfl, rfl⟩]
      · rw [if_neg (fun z => w z.2), if_neg (fun z => w z.2)]
        exact hj.pfl k hk
    · refine hj.frame frR rfl (mR_ne (fun z => e (h.inj y x hy hx (by omega)))) rfl rfl rfl rfl rfl rfl ?_ rfl
      funext k
      show up2 (fl s) x i v y k = fl s y k
      rw [up2_eq, if_neg (fun z => e z.1)]
  · rw [f 3 (by omega)]; exact h.pat
  · rw [f 1 (by omega)]; exact h.prt
  · rw [f 2 (by omega)]; exact h.pbf
def lgS (r : Nat) : Prop := 9 ≤ r ∧ r ≤ 12
theorem CR.wlog {μ μ1 : Mem} {s : St} {ι : Nat → Nat} {d : Int32} {P : Nat → Prop} {l : List (Nat × Nat × Option Nat)} (h : CR μ s ι d P) (hF : Fr lgS μ μ1) (hr : logR μ1 ι l) : CR μ1 (ulog s l) ι d P := by
  have f : ∀ r, r < 9 ∨ 12 < r → mI μ1 r = mI μ r ∧ mR μ1 r = mR μ r := fun r h1 => hF.2.2 r (by unfold lgS; omega)
  refine h.mk hF (fun x hx => ?_) ?_ ?_ ?_ ?_ ?_ hr ?_ ?_ ?_ ?_
  · have hi := h.it x hx
    have h35 := hi.i35
    exact hi.frame hF (f _ (by omega)).1 (f _ (by omega)).2 (f _ (by omega)).1 rfl rfl rfl rfl rfl rfl rfl
  · rw [(f 3 (by omega)).2]; exact h.pat
  · rw [(f 1 (by omega)).2]; exact h.prt
  · rw [(f 2 (by omega)).2]; exact h.pbf
  · exact h.pl.frame (fun r hr => (f r (by omega)).1)
  · exact h.wt.frame (f 13 (by omega)).1 (f 14 (by omega)).2
  · rw [(f 0 (by omega)).1]; exact h.ptr
  · rw [(f 0 (by omega)).1]; exact h.pps
  · rw [(f 0 (by omega)).1]; exact h.pmv
  · rw [(f 0 (by omega)).1]; exact h.pwh
def bfs (s : St) (k : Nat) : List Nat := (List.range k).filterMap (bf s)
theorem bfs_s (s : St) (k : Nat) : bfs s (k + 1) = bfs s k ++ (bf s k).toList := by
  unfold bfs
  rw [List.range_succ, List.filterMap_append]
  congr 1
theorem bfs_none {s : St} {k : Nat} (h : bf s k = none) : bfs s (k + 1) = bfs s k := by
  rw [bfs_s, h]
  simp
theorem bfs_some {s : St} {k y : Nat} (h : bf s k = some y) : bfs s (k + 1) = bfs s k ++ [y] := by
  rw [bfs_s, h]
  simp
theorem bfs_len (s : St) (k : Nat) : (bfs s k).length ≤ k := by
  unfold bfs
  have := List.length_filterMap_le (bf s) (List.range k)
  rw [List.length_range] at this
  exact this
theorem m_bfs_loop {s : St} (hb : ∀ r x, r < 6 → bf s r = some x → x < 256) (hlen : (row s).length + 6 ≤ 262) {K : Int32 → Mem → Prop} : ∀ (e k : Nat) (μ : Mem), k + e = 6 → MR μ (urow s (row s ++ bfs s k)) → (∀ μ1, MR μ1 (urow s (row s ++ bfs s 6)) → Fr moS μ μ1 → ∀ v, K v μ1) → wM_settle_32 K (e + 1) (nI k) μ := by
  intro e
  induction e with
  | zero =>
    intro k μ hk hM h
    have : k = 6 := by omega
    subst this
    unfold wM_settle_32
    rw [li_6, nI_leI (by omega) (by omega)]
    exact ⟨fun _ => h μ hM (Fr.refl μ) _, fun q => absurd (Nat.le_refl _) q⟩
  | succ e ih =>
    intro k μ hk hM h
    have p1 : mI μ 28 k = eo (bf s k) := hM.pbf k (by omega)
    have hl := bfs_len s k
    unfold wM_settle_32
    rw [li_6, nI_leI (by omega) (by omega), nI_clamp (by omega), nI_1, p1]
    refine ⟨fun q => absurd q (by omega), fun _ => ⟨(nI_vp (by omega)).mpr (by omega), ?_⟩⟩
    cases hv : bf s k with
    | none =>
      rw [← bfs_none hv] at hM
      exact m_wait_none (ih (k + 1) μ (by omega) hM h)
    | some x =>
      have hx := hb k x (by omega) hv
      refine m_wait hM (by omega) (by show (row s ++ bfs s k).length < 700; rw [List.length_append]; omega) (fun μ1 h1 hF => ?_)
      rw [qq_urow, q_row_urow, List.append_assoc, ← bfs_some hv] at h1
      exact ih (k + 1) μ1 (by omega) h1 (fun μ2 h2 hF2 v => h μ2 h2 (hF.trans hF2) v)
theorem c_bfs_loop {s : St} {ι : Nat → Nat} {d : Int32} {P : Nat → Prop} (hb : ∀ r x, r < 6 → bf s r = some x → P x) (hlen : (row s).length + 6 ≤ 262) {K : Int32 → Mem → Prop} : ∀ (e k : Nat) (μ : Mem), k + e = 6 → CR μ (urow s (row s ++ bfs s k)) ι d P → (∀ μ1, CR μ1 (urow s (row s ++ bfs s 6)) ι d P → Fr clS μ μ1 → ∀ v, K v μ1) → wC_queueRootsAndLog_10 6 K (e + 1) (nI k) μ := by
  intro e
  induction e with
  | zero =>
    intro k μ hk hM h
    have : k = 6 := by omega
    subst this
    unfold wC_queueRootsAndLog_10
    rw [li_6, nI_leI (by omega) (by omega)]
    exact ⟨fun _ => h μ hM (Fr.refl μ) _, fun q => absurd (Nat.le_refl _) q⟩
  | succ e ih =>
    intro k μ hk hM h
    have p1 : mR μ 2 k = (bf s k).map ι := hM.pbf k (by omega)
    have hl := bfs_len s k
    unfold wC_queueRootsAndLog_10
    rw [li_6, nI_leI (by omega) (by omega), nI_clamp (by omega), nI_1, p1]
    refine ⟨fun q => absurd q (by omega), fun _ => ⟨(nI_vp (by omega)).mpr (by omega), ?_⟩⟩
    intro e2 he2
    cases hv : bf s k with
    | none =>
      rw [hv] at he2
      subst he2
      rw [← bfs_none hv] at hM
      exact ⟨fun _ => ih (k + 1) μ (by omega) hM h, fun y hy => (by cases hy)⟩
    | some x =>
      rw [hv] at he2
      subst he2
      refine ⟨fun q => (by cases q), fun y hy => ?_⟩
      have : ι x = y := Option.some.inj hy
      subst this
      refine c_wait hM (hb k x (by omega) hv) (by show (row s ++ bfs s k).length < 262; rw [List.length_append]; omega) (fun μ1 h1 hF => ?_)
      rw [qq_urow, q_row_urow, List.append_assoc, ← bfs_some hv] at h1
      exact ih (k + 1) μ1 (by omega) h1 (fun μ2 h2 hF2 v => h μ2 h2 (hF.trans hF2) v)
/-- what the log's fields held -/
def olds (s : St) (k : Nat) : List Nat := ((log s).take k).filterMap (fun e => e.2.2)
theorem olds_s {s : St} {k x i : Nat} {o : Option Nat} (h : (log s)[k]? = some (x, i, o)) : olds s (k + 1) = olds s k ++ o.toList := by
  unfold olds
  rw [List.take_succ, h, List.filterMap_append]
  congr 1
theorem olds_len (s : St) (k : Nat) : (olds s k).length ≤ k := by
  unfold olds
  have h1 := List.length_filterMap_le (fun e : Nat × Nat × Option Nat => e.2.2) ((log s).take k)
  have h2 := List.length_take_le k (log s)
  omega
def qcol (s : St) (k : Nat) : Nat → Nat := if tr s = 0 then co s else grl s (olds s k)
def lgk (s : St) (k : Nat) : Nat → Nat → Nat := fun x i => if ((log s).take k).any (fun e => e.1 == x && e.2.1 == i) then 0 else lg s x i
theorem lgk_0 (s : St) : lgk s 0 = lg s := by
  funext x i
  unfold lgk
  rw [List.take_zero]
  rfl
theorem lgk_s {s : St} {k x i : Nat} {o : Option Nat} (h : (log s)[k]? = some (x, i, o)) : up2 (lgk s k) x i 0 = lgk s (k + 1) := by
  funext y j
  unfold up2 lgk
  rw [List.take_succ, h, List.any_append]
  by_cases e : y = x ∧ j = i
  · obtain ⟨rfl, rfl⟩ := e
    simp
  · rw [if_neg e]
    have : (Option.toList (some (x, i, o))).any (fun e => e.1 == y && e.2.1 == j) = false := by
      simp
      intro q w
      exact e ⟨q.symm, w.symm⟩
    rw [this, Bool.or_false]
