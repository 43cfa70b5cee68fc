/-! Slots gathered: both sides -/
def cod (s : St) (c : Nat) (v : Option Nat) : Prop := (c < 6 ∧ rt s c = v) ∨ ∃ x i, x < 256 ∧ i < 12 ∧ c = 6 + 12 * x + i ∧ fl s x i = v
def slM (μ : Mem) (s : St) (L : List (Option Nat)) : Prop := mI μ 17 26 = nI L.length ∧ ∀ (k : Nat) (v : Option Nat), L[k]? = some v → ∃ c, mI μ 33 k = nI c ∧ cod s c v
theorem m_addSlot {μ : Mem} {s : St} {L : List (Option Nat)} {c : Nat} {v : Option Nat} {post : Mem → Prop} (h : MR μ s) (hS : slM μ s L) (hc : cod s c v) (hL : L.length < 400) (hp : ∀ μ1, MR μ1 s → slM μ1 s (L ++ [v]) → Fr moS μ μ1 → post μ1) : wM_addSlot (nI c) post μ := by
  have m17 : moS 17 := by unfold moS; omega
  have m33 : moS 33 := by unfold moS; omega
  obtain ⟨h1, h2⟩ := hS
  unfold wM_addSlot
  rw [h1, nI_clamp (by omega)]
  refine ⟨(nI_vp (by omega)).mpr hL, ?_⟩
  intro μ2 e2 μ3 e3
  subst e2; subst e3
  rw [mI_no (by omega), h1, nI_1]
  refine hp _ h.w_slot.w_slotN ⟨?_, fun k w hk => ?_⟩ ((Fr.sI m33).trans (Fr.sI m17))
  · rw [mI_sI_self, List.length_append]
    rfl
  · rw [mI_no (by omega), mI_sI]
    by_cases e : k = L.length
    · subst e
      rw [if_pos ⟨rfl, rfl⟩]
      rw [List.getElem?_append_right (Nat.le_refl _)] at hk
      simp at hk
      rw [← hk]
      exact ⟨c, rfl, hc⟩
    · rw [if_neg (fun z => e z.2)]
      have hlt : k < L.length := by
        have := (List.getElem?_eq_some_iff.mp hk).1
        rw [List.length_append] at this
        simp at this
        omega
      rw [List.getElem?_append_left hlt] at hk
      exact h2 k w hk
theorem c_addSlot {μ : Mem} {s : St} {ι : Nat → Nat} {d : Int32} {P : Nat → Prop} {L : List (Option Nat)} {v : Option Nat} {post : Mem → Prop} (h : CR μ s ι d P) (hS : ringR μ ι 15 L) (hL : L.length < 262) (hv : ∀ y, v = some y → P y) (hp : ∀ μ1, CR μ1 s ι d P → ringR μ1 ι 15 (L ++ [v]) → Fr clS μ μ1 → post μ1) : wW_add 15 (v.map ι) post μ := by
  refine ring_add hS (lay_ok h.lay rfl) (lay_ok h.lay rfl) (h.lay.2 16 _ rfl).2 hL (fun y hy => (h.it y (hv y hy)).o) (fun μ1 hr hF => ?_)
  exact hp μ1 (h.frame (hF.mono (fun r hr => by unfold rgS at hr; unfold outS; omega))) hr (hF.mono (rg_cl (by omega)))
def rL (s : St) (k : Nat) : List (Option Nat) := (List.range k).map (rt s)
def lL (s : St) (k : Nat) : List (Option Nat) := ((log s).take k).map (fun e => fl s e.1 e.2.1)
theorem rL_s (s : St) (k : Nat) : rL s (k + 1) = rL s k ++ [rt s k] := by
  unfold rL
  rw [List.range_succ, List.map_append]
  rfl
theorem rL_len (s : St) (k : Nat) : (rL s k).length = k := by
  unfold rL
  rw [List.length_map, List.length_range]
theorem lL_s {s : St} {k x i : Nat} {o : Option Nat} (h : (log s)[k]? = some (x, i, o)) : lL s (k + 1) = lL s k ++ [fl s x i] := by
  unfold lL
  rw [List.take_succ, h, List.map_append]
  rfl
theorem lL_len {s : St} {k : Nat} (h : k ≤ (log s).length) : (lL s k).length = k := by
  unfold lL
  rw [List.length_map, List.length_take]
  omega
theorem m_rL_loop {s : St} {K : Int32 → Mem → Prop} : ∀ (e k : Nat) (μ : Mem), k + e = 6 → MR μ s → slM μ s (rL s k) → (∀ μ1, MR μ1 s → slM μ1 s (rL s 6) → Fr moS μ μ1 → ∀ v, K v μ1) → wM_countSlots_7 K (e + 1) (nI k) μ := by
  intro e
  induction e with
  | zero =>
    intro k μ hk hM hS h
    have : k = 6 := by omega
    subst this
    unfold wM_countSlots_7
    rw [li_6, nI_leI (by omega) (by omega)]
    exact ⟨fun _ => h μ hM hS (Fr.refl μ) _, fun q => absurd (Nat.le_refl _) q⟩
  | succ e ih =>
    intro k μ hk hM hS h
    unfold wM_countSlots_7
    rw [li_6, nI_leI (by omega) (by omega), nI_1]
    refine ⟨fun q => absurd q (by omega), fun _ => m_addSlot hM hS (v := rt s k) (Or.inl ⟨by omega, rfl⟩) (by rw [rL_len]; omega) (fun μ1 h1 hS1 hF => ?_)⟩
    rw [← rL_s] at hS1
    exact ih (k + 1) μ1 (by omega) h1 hS1 (fun μ2 h2 hS2 hF2 v => h μ2 h2 hS2 (hF.trans hF2) v)
theorem m_lL_loop {s : St} (hw : Wf s) (hl : lgOK s) {K : Int32 → Mem → Prop} : ∀ (e k : Nat) (μ : Mem), k + e = (log s).length → MR μ s → slM μ s (rL s 6 ++ lL s k) → (∀ μ1, MR μ1 s → slM μ1 s (rL s 6 ++ lL s (log s).length) → Fr moS μ μ1 → ∀ v, K v μ1) → wM_countSlots_26 K (e + 1) (nI k) μ := by
  obtain ⟨l1, l2, l3⟩ := hl
  intro e
  induction e with
  | zero =>
    intro k μ hk hM hS h
    have : k = (log s).length := by omega
    subst this
    unfold wM_countSlots_26
    rw [hM.plogN, nI_leI (by omega) (by omega)]
    exact ⟨fun _ => h μ hM hS (Fr.refl μ) _, fun q => absurd (Nat.le_refl _) q⟩
  | succ e ih =>
    intro k μ hk hM hS h
    have hk2 : k < (log s).length := by omega
    obtain ⟨⟨x, i, o⟩, hlog⟩ : ∃ z, (log s)[k]? = some z := ⟨_, List.getElem?_eq_getElem hk2⟩
    obtain ⟨hx, hi⟩ := l2 k x i o hlog
    have hx2 := hw.lt hx
    have h12 := hw.sz12 hx
    unfold wM_countSlots_26
    rw [hM.plogN, nI_leI (by omega) (by omega), nI_1, nI_clamp (by omega), (hM.plog k x i o hlog).1, li_6, nI_add]
    refine ⟨fun q => absurd q (by omega), fun _ => ⟨(nI_vp (by omega)).mpr (by omega), m_addSlot hM hS (v := fl s x i) (Or.inr ⟨x, i, hx2, by omega, by omega, rfl⟩) ?_ (fun μ1 h1 hS1 hF => ?_)⟩⟩
    · rw [List.length_append, rL_len, lL_len (by omega)]
      omega
    · rw [List.append_assoc, ← lL_s hlog] at hS1
      exact ih (k + 1) μ1 (by omega) h1 hS1 (fun μ2 h2 hS2 hF2 v => h μ2 h2 hS2 (hF.trans hF2) v)
theorem c_rL_loop {s : St} {ι : Nat → Nat} {d : Int32} {P : Nat → Prop} (hr : ∀ r x, r < 6 → rt s r = some x → P x) {K : Int32 → Mem → Prop} : ∀ (e k : Nat) (μ : Mem), k + e = 6 → CR μ s ι d P → ringR μ ι 15 (rL s k) → (∀ μ1, CR μ1 s ι d P → ringR μ1 ι 15 (rL s 6) → Fr clS μ μ1 → ∀ v, K v μ1) → wC_gatherSlots_17 6 K (e + 1) (nI k) μ := by
  intro e
  induction e with
  | zero =>
    intro k μ hk hM hS h
    have : k = 6 := by omega
    subst this
    unfold wC_gatherSlots_17
    rw [li_6, nI_leI (by omega) (by omega)]
    exact ⟨fun _ => h μ hM hS (Fr.refl μ) _, fun q => absurd (Nat.le_refl _) q⟩
  | succ e ih =>
    intro k μ hk hM hS h
    unfold wC_gatherSlots_17
    rw [li_6, nI_leI (by omega) (by omega), nI_clamp (by omega), nI_1, hM.prt k (by omega)]
    refine ⟨fun q => absurd q (by omega), fun _ => ⟨(nI_vp (by omega)).mpr (by omega), ?_⟩⟩
    intro e3 he3
    subst he3
    refine c_addSlot hM hS (by rw [rL_len]; omega) (fun y hy => hr k y (by omega) hy) (fun μ1 h1 hS1 hF => ?_)
    rw [← rL_s] at hS1
    exact ih (k + 1) μ1 (by omega) h1 hS1 (fun μ2 h2 hS2 hF2 v => h μ2 h2 hS2 (hF.trans hF2) v)
theorem c_lL_loop {s : St} {ι : Nat → Nat} {d : Int32} (hw : Wf s) (hl : lgOK s) (hf : ∀ x i y, sta s x ≠ 0 → i < sz s x → fl s x i = some y → sta s y ≠ 0) {K : Int32 → Mem → Prop} : ∀ (e k : Nat) (μ : Mem), k + e = (log s).length → CR μ s ι d (lv s) → ringR μ ι 15 (rL s 6 ++ lL s k) → (∀ μ1, CR μ1 s ι d (lv s) → ringR μ1 ι 15 (rL s 6 ++ lL s (log s).length) → Fr clS μ μ1 → ∀ v, K v μ1) → wC_gatherSlots_44 K (e + 1) (nI k) μ := by
  obtain ⟨l1, l2, l3⟩ := hl
  intro e
  induction e with
  | zero =>
    intro k μ hk hM hS h
    have : k = (log s).length := by omega
    subst this
    unfold wC_gatherSlots_44
    rw [hM.logN, nI_leI (by omega) (by omega)]
    exact ⟨fun _ => h μ hM hS (Fr.refl μ) _, fun q => absurd (Nat.le_refl _) q⟩
  | succ e ih =>
    intro k μ hk hM hS h
    have hk2 : k < (log s).length := by omega
    obtain ⟨⟨x, i, o⟩, hlog⟩ : ∃ z, (log s)[k]? = some z := ⟨_, List.getElem?_eq_getElem hk2⟩
    obtain ⟨hx, hi⟩ := l2 k x i o hlog
    have h12 := hw.sz12 hx
    have p := hM.plo.2.2 k x i o hlog
    have hit := hM.it x hx
    unfold wC_gatherSlots_44 wG_heldNow
    rw [hM.logN, nI_leI (by omega) (by omega), nI_1, nI_clamp (by omega), p.1, p.2.1, nI_clamp (by omega)]
    refine ⟨fun q => absurd q (by omega), fun _ => ⟨(nI_vp (by omega)).mpr (by omega), ?_⟩⟩
    intro e2 he2
    subst he2
    refine ⟨ι x, rfl, hit.o, hit.o1, ?_, ?_⟩
    · rw [hit.l1]
      exact (nI_vp (by omega)).mpr hi
    · intro e7 he7
      rw [hit.pfl i hi] at he7
      subst he7
      refine c_addSlot hM hS ?_ (fun y hy => hf x i y hx hi hy) (fun μ1 h1 hS1 hF => ?_)
      · rw [List.length_append, rL_len, lL_len (by omega)]
        omega
      · rw [List.append_assoc, ← lL_s hlog] at hS1
        exact ih (k + 1) μ1 (by omega) h1 hS1 (fun μ2 h2 hS2 hF2 v => h μ2 h2 hS2 (hF.trans hF2) v)
