/-! Stuck counts taken anew: the class -/
theorem cnt_map (x : Nat) (l : List Nat) : (l.map some).count (some x) = l.count x := by
  induction l with
  | nil => rfl
  | cons a l ih =>
    rw [List.map_cons, List.count_cons, List.count_cons, ih]
    by_cases e : a = x
    · simp [e]
    · simp [e]
theorem map_eq {ι : Nat → Nat} {P : Nat → Prop} {o : Option Nat} {x : Nat} (hinj : ∀ x y, P x → P y → ι x = ι y → x = y) (hx : P x) (ho : ∀ y, o = some y → P y) : o.map ι = some (ι x) ↔ o = some x := by
  cases o with
  | none => exact ⟨fun q => (by cases q), fun q => (by cases q)⟩
  | some y =>
    refine ⟨fun q => ?_, fun q => by rw [q]; rfl⟩
    rw [hinj y x (ho y rfl) hx (Option.some.inj q)]
theorem c_hol21 {s : St} {x m : Nat} {ι : Nat → Nat} {d : Int32} {μ : Mem} (h : CR μ s ι d (lv s)) (hx : sta s x ≠ 0) (hrt : ∀ r y, r < 6 → rt s r = some y → sta s y ≠ 0) {K : Int32 → Int32 → Mem → Prop} : ∀ (e k : Nat), k + e = 6 → (∀ v, K (nI (m + fc (rt s) x 6)) v μ) → wC_countHolders_21 (ι x) 6 K (e + 1) (nI (m + fc (rt s) x k)) (nI k) μ := by
  intro e
  induction e with
  | zero =>
    intro k hk hp
    have : k = 6 := by omega
    subst this
    unfold wC_countHolders_21
    rw [li_6, nI_leI (by omega) (by omega)]
    exact ⟨fun _ => hp _, fun q => absurd (Nat.le_refl _) q⟩
  | succ e ih =>
    intro k hk hp
    have hs := fc_s (rt s) x k
    unfold wC_countHolders_21
    rw [li_6, nI_leI (by omega) (by omega), nI_clamp (by omega), h.prt k (by omega), nI_1, nI_1]
    refine ⟨fun q => absurd q (by omega), fun _ => ⟨(nI_vp (by omega)).mpr (by omega), ?_⟩⟩
    intro e4 he4
    subst he4
    rw [map_eq h.inj hx (fun y hy => hrt k y (by omega) hy)]
    refine ⟨fun q => ?_, fun q => ?_⟩
    · rw [if_pos q] at hs
      rw [show m + fc (rt s) x k + 1 = m + fc (rt s) x (k + 1) by omega]
      exact ih (k + 1) (by omega) hp
    · rw [if_neg q] at hs
      rw [show m + fc (rt s) x k = m + fc (rt s) x (k + 1) by omega]
      exact ih (k + 1) (by omega) hp
theorem c_cfh14 {s : St} {x y : Nat} {ι : Nat → Nat} {d : Int32} {μ : Mem} (h : CR μ s ι d (lv s)) (hx : sta s x ≠ 0) (hy : sta s y ≠ 0) (hn : sz s y ≤ 12) (hf : ∀ i z, i < sz s y → fl s y i = some z → sta s z ≠ 0) {K : Int32 → Int32 → Mem → Prop} : ∀ (e k : Nat), k + e = sz s y → (∀ v, K (nI (fc (fl s y) x (sz s y))) v μ) → wI_countFieldsHolding_14 (ι x) (ι y + 1) (nI (sz s y)) K (e + 1) (nI (fc (fl s y) x k)) (nI k) μ := by
  have hi := h.it y hy
  intro e
  induction e with
  | zero =>
    intro k hk hp
    have : k = sz s y := by omega
    subst this
    unfold wI_countFieldsHolding_14
    rw [nI_leI (by omega) (by omega)]
    exact ⟨fun _ => hp _, fun q => absurd (Nat.le_refl _) q⟩
  | succ e ih =>
    intro k hk hp
    have hs := fc_s (fl s y) x k
    unfold wI_countFieldsHolding_14
    rw [nI_leI (by omega) (by omega), nI_clamp (by omega), hi.l1, hi.pfl k (by omega), nI_1, nI_1]
    refine ⟨fun q => absurd q (by omega), fun _ => ⟨hi.o1, (nI_vp (by omega)).mpr (by omega), ?_⟩⟩
    intro e5 he5
    subst he5
    rw [map_eq h.inj hx (fun z hz => hf k z (by omega) hz)]
    refine ⟨fun q => ?_, fun q => ?_⟩
    · rw [if_pos q] at hs
      rw [← hs]
      exact ih (k + 1) (by omega) hp
    · rw [if_neg q] at hs
      rw [show fc (fl s y) x k = fc (fl s y) x (k + 1) by omega]
      exact ih (k + 1) (by omega) hp
theorem c_hol61 {s : St} {x m : Nat} {ι : Nat → Nat} {d : Int32} {μ : Mem} (h : CR μ s ι d (lv s)) (hw : Wf s) (hx : sta s x ≠ 0) (hf : ∀ y i z, sta s y ≠ 0 → i < sz s y → fl s y i = some z → sta s z ≠ 0) {K : Int32 → Int32 → Mem → Prop} : ∀ (e k : Nat), k + e = 128 → (∀ v, K (nI (m + sm (wAt s (fun y => fc (fl s y) x (sz s y))) 128)) v μ) → wC_countHolders_61 (ι x) 128 K (e + 1) (nI (m + sm (wAt s (fun y => fc (fl s y) x (sz s y))) k)) (nI k) μ := by
  intro e
  induction e with
  | zero =>
    intro k hk hp
    have : k = 128 := by omega
    subst this
    unfold wC_countHolders_61
    rw [li_128, nI_leI (by omega) (by omega)]
    exact ⟨fun _ => hp _, fun q => absurd (Nat.le_refl _) q⟩
  | succ e ih =>
    intro k hk hp
    have hs : sm (wAt s (fun y => fc (fl s y) x (sz s y))) (k + 1) = sm (wAt s (fun y => fc (fl s y) x (sz s y))) k + wAt s (fun y => fc (fl s y) x (sz s y)) k := rfl
    have nxt := ih (k + 1) (by omega) hp
    unfold wC_countHolders_61
    rw [li_128, nI_leI (by omega) (by omega), nI_clamp (by omega), h.pat k (by omega), nI_1]
    refine ⟨fun q => absurd q (by omega), fun _ => ⟨(nI_vp (by omega)).mpr (by omega), ?_⟩⟩
    intro e9 he9
    cases ho : obj s k with
    | none =>
      rw [ho] at he9
      subst he9
      refine ⟨fun _ => ?_, fun y hy => (by cases hy)⟩
      rw [hs, wAt_none ho, Nat.add_zero] at nxt
      exact nxt
    | some y =>
      rw [ho] at he9
      subst he9
      refine ⟨fun q => (by cases q), fun y7 hy7 => ?_⟩
      have : ι y = y7 := Option.some.inj hy7
      subst this
      have hy := (obj_live hw ho).1
      have hi := h.it y hy
      refine ⟨hi.o, ?_⟩
      unfold wI_countFieldsHolding
      rw [hi.l1]
      refine ⟨hi.o, hi.o1, sz s y + 1, c_cfh14 h hx hy (hw.sz12 hy) (fun i z hi hz => hf y i z hy hi hz) (sz s y) 0 (by omega) (fun v => ?_)⟩
      rw [hs, wAt_some ho, ← Nat.add_assoc] at nxt
      rw [nI_add]
      exact nxt
theorem c_countHolders {s : St} {x : Nat} {ι : Nat → Nat} {d : Int32} {μ : Mem} {post : Int32 → Mem → Prop} (h : CR μ s ι d (lv s)) (hw : Wf s) (hx : sta s x ≠ 0) (hrt : ∀ r y, r < 6 → rt s r = some y → sta s y ≠ 0) (hf : ∀ y i z, sta s y ≠ 0 → i < sz s y → fl s y i = some z → sta s z ≠ 0) (hr : ∀ y, y ∈ row s → sta s y ≠ 0) (hp : post (nI (hol s x)) μ) : wC_countHolders (ι x) post μ := by
  unfold wC_countHolders wW_countOf
  refine ⟨((row s).map some).length + 1, ring_count h.wt (lay_ok h.lay rfl) (lay_ok h.lay rfl) (h.lay.2 14 _ rfl).2 (fun z hz e => ?_) ((row s).map some).length 0 0 (by omega) (fun l3 => ⟨7, ?_⟩)⟩
  · obtain ⟨w, hw1, hw2⟩ := List.mem_map.mp hz
    have := Option.some.inj hw2
    subst this
    exact h.inj w x (hr w hw1) hx e
  · rw [List.drop_zero, cnt_map, Nat.zero_add]
    refine c_hol21 (m := (row s).count x) h hx hrt 6 0 (by omega) (fun _ => ⟨129, ?_⟩)
    refine c_hol61 (m := (row s).count x + fc (rt s) x 6) h hw hx hf 128 0 (by omega) (fun _ => ?_)
    rw [sum_at hw]
    have e : (row s).count x + fc (rt s) x 6 + sm (wLv s (fun y => fc (fl s y) x (sz s y))) 256 = hol s x := by
      have : sm (fun y => if sta s y = 0 then 0 else fc (fl s y) x (sz s y)) 256 = sm (wLv s (fun y => fc (fl s y) x (sz s y))) 256 := sm_congr (fun _ _ => rfl)
      unfold hol
      rw [this]
      omega
    rw [e]
    exact hp
theorem jmin_3 {n : Nat} (h : n < 2 ^ 31) : jmin (nI n) 3 = nI (if n < 3 then n else 3) := by
  have hl : (3 : Int32) < nI n ↔ 3 < n := nI_ltI (a := 3) (by omega) h
  unfold jmin
  by_cases e : n < 3
  · rw [if_neg (fun q => by have := hl.mp q; omega), if_pos e]
  · rw [if_neg e]
    by_cases e2 : n = 3
    · subst e2
      rfl
    · rw [if_pos (hl.mpr (by omega))]
      rfl
theorem c_rc_loop {s : St} (h : InvR s) {ι : Nat → Nat} {d : Int32} {K : Int32 → Mem → Prop} : ∀ (e k : Nat) (μ : Mem), k + e = 128 → CR μ (rcN s k) ι d (lv (rcN s k)) → (∀ μ1, CR μ1 (rcN s 128) ι d (lv (rcN s 128)) → Fr clS μ μ1 → ∀ v, K v μ1) → wC_recountStuck_10 128 K (e + 1) (nI k) μ := by
  intro e
  induction e with
  | zero =>
    intro k μ hk hM hp
    have : k = 128 := by omega
    subst this
    unfold wC_recountStuck_10
    rw [li_128, nI_leI (by omega) (by omega)]
    exact ⟨fun _ => hp μ hM (Fr.refl μ) _, fun q => absurd (Nat.le_refl _) q⟩
  | succ e ih =>
    intro k μ hk hM hp
    have hI := inv_rcN h k
    obtain ⟨hw, hb, ha, hl, hr, hrt, hf⟩ := inv_facts hI.1
    have nxt : ∀ μ1, CR μ1 (rcN s (k + 1)) ι d (lv (rcN s (k + 1))) → Fr clS μ μ1 → wC_recountStuck_10 (nI 128) K (e + 1) (nI (k + 1)) μ1 := fun μ1 h1 hF => ih (k + 1) μ1 (by omega) h1 (fun μ2 h2 hF2 v => hp μ2 h2 (hF.trans hF2) v)
    unfold wC_recountStuck_10
    rw [li_128, nI_leI (by omega) (by omega), nI_clamp (by omega), hM.pat k (by omega), nI_1]
    refine ⟨fun q => absurd q (by omega), fun _ => ⟨(nI_vp (by omega)).mpr (by omega), ?_⟩⟩
    intro e2 he2
    cases ho : obj (rcN s k) k with
    | none =>
      rw [ho] at he2
      subst he2
      refine ⟨fun _ => nxt μ (by rw [rcN_none ho]; exact hM) (Fr.refl μ), fun y hy => (by cases hy)⟩
    | some x =>
      rw [ho] at he2
      subst he2
      refine ⟨fun q => (by cases q), fun y7 hy7 => ?_⟩
      have : ι x = y7 := Option.some.inj hy7
      subst this
      have hlive := (obj_live hw ho).1
      have hx2 := hI.2.1 x hlive
      have hc3 := hb.2.1 x
      have es := rcN_some ho
      generalize rcN s k = t at *
      have hi := hM.it x hlive
      have h35 := hi.i35
      have cx : clS (ι x) := by unfold clS; omega
      rw [hi.pct, li_3, nI_eq (by omega) (by omega)]
      refine ⟨hi.o, fun q => ?_, fun q => ?_⟩
      · rw [if_pos q] at es
        have hle := hol_le hw (by omega) x
        refine c_countHolders hM hw hlive hrt hf (fun y hy => by have := hr y hy; omega) ⟨hi.o, ?_⟩
        intro μ8 e8
        subst e8
        have j3 : jmin (nI (hol t x)) (nI 3) = nI (if hol t x < 3 then hol t x else 3) := jmin_3 (by omega)
        rw [j3, mI_sI_self, li_0, nI_eq (by split <;> omega) (by omega)]
        have h7 := hM.w_ct (x := x) (v := if hol t x < 3 then hol t x else 3) hlive
        refine ⟨fun z => ?_, fun z => nxt _ ?_ (Fr.sI cx)⟩
        · have h0 : hol t x = 0 := by
            by_cases w : hol t x < 3
            · rw [if_pos w] at z; exact z
            · rw [if_neg w] at z; omega
          rw [z] at h7 ⊢
          have hos := osz_mem hw hx2
          have hwu : Wf (uct t (up (ct t) x 0)) := hw.ext rfl (fun _ => Iff.rfl) rfl rfl rfl rfl
          have hni : ∀ i y, i < sz t x → fl t x i = some y → y ≠ x := by
            intro i y hi hy e
            subst e
            have h1 := fc_pos hi hy
            have h2 := sm_mem (f := fun z => if sta t z = 0 then 0 else fc (fl t z) y (sz t z)) (hw.lt hlive)
            rw [if_neg hlive] at h2
            unfold hol at h0
            omega
          refine c_letGo (P := lv t) h7 hlive (hwu.ow hlive) hwu.sm ⟨hb.1, ?_, hb.2.2⟩ (fun i y hi hy => ?_) (by show (row t).length + sz t x ≤ 262; omega) (fun μ1 h1 hF => nxt μ1 ?_ ((Fr.sI cx).trans hF))
          · intro y
            show up (ct t) x 0 y ≤ 3
            rw [up_eq]
            split
            · omega
            · exact hb.2.1 y
          · have hyl := hf x i y hlive hi hy
            refine ⟨hyl, ?_⟩
            show 0 < up (ct t) x 0 y ↔ sta t y = 2
            rw [up_ne (hni i y hi hy)]
            exact ha.iff hyl
          · rw [es]
            unfold rc1
            rw [if_pos h0]
            refine CR.sub h1 (fun y hy => ?_)
            have hy' : up (sta t) x 0 y ≠ 0 := hy
            show sta t y ≠ 0
            rw [up_eq] at hy'
            split at hy'
            · exact absurd rfl hy'
            · exact hy'
        · have h0 : hol t x ≠ 0 := fun w => z (by rw [if_pos (by omega)]; exact w)
          rw [es]
          unfold rc1
          rw [if_neg h0]
          exact h7
      · rw [if_neg q] at es
        exact nxt μ (by rw [es]; exact hM) (Fr.refl μ)
theorem c_recount {s : St} (h : InvR s) {ι : Nat → Nat} {d : Int32} {μ : Mem} {post : Mem → Prop} (hM : CR μ s ι d (lv s)) (hp : ∀ μ1, CR μ1 (rcN s 128) ι d (lv (rcN s 128)) → Fr clS μ μ1 → post μ1) : wC_recountStuck post μ := by
  unfold wC_recountStuck
  exact ⟨129, c_rc_loop h (ι := ι) (d := d) 128 0 μ (by omega) hM (fun μ1 h1 hF v => hp μ1 h1 hF)⟩
