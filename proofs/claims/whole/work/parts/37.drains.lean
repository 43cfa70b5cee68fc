/-! Decrements one after another -/
def drN : Nat → St → St
  | 0, s => s
  | n + 1, s => if row s = [] then s else drN n (dr1 s)
theorem drN_nil {s : St} (h : row s = []) (n : Nat) : drN n s = s := by
  cases n with
  | zero => rfl
  | succ n => unfold drN; exact if_pos h
theorem drN_s {s : St} (h : ¬ row s = []) (n : Nat) : drN (n + 1) s = drN n (dr1 s) := by
  conv => lhs; unfold drN
  exact if_neg h
theorem drN_more {p : Nat} : ∀ (s : St) (n : Nat), row (drN p s) = [] → p ≤ n → drN n s = drN p s := by
  induction p with
  | zero =>
    intro s n h _
    exact drN_nil h n
  | succ p ih =>
    intro s n h hn
    by_cases e : row s = []
    · rw [drN_nil e, drN_nil e]
    · cases n with
      | zero => omega
      | succ n =>
        rw [drN_s e] at h
        rw [drN_s e, drN_s e]
        exact ih _ n h (by omega)
theorem drN_keep {I : St → Prop} (hI : ∀ s, I s → gdD s ∧ (row s ≠ [] → I (dr1 s))) : ∀ n s, I s → I (drN n s) := by
  intro n
  induction n with
  | zero => intro s h; exact h
  | succ n ih =>
    intro s h
    by_cases e : row s = []
    · rw [drN_nil e]; exact h
    · rw [drN_s e]
      exact ih _ ((hI s h).2 e)
theorem row_pos {s : St} (h : ¬ row s = []) : ∃ x l, row s = x :: l := by
  cases hr : row s with
  | nil => exact absurd hr h
  | cons x l => exact ⟨x, l, rfl⟩
theorem m_drainAll_loop {I : St → Prop} (hI : ∀ s, I s → gdD s ∧ (row s ≠ [] → I (dr1 s))) {k : Mem → Prop} : ∀ (p : Nat) (s : St) (μ : Mem), I s → row (drN p s) = [] → MR μ s → (∀ μ1, MR μ1 (drN p s) → Fr moS μ μ1 → k μ1) → wM_drainAll_0 k (p + 1) μ := by
  intro p
  induction p with
  | zero =>
    intro s μ _ hr hM h
    have hr' : row s = [] := hr
    unfold wM_drainAll_0
    rw [hM.prowN, hr']
    exact ⟨fun _ => h μ hM (Fr.refl μ), fun q => absurd (by decide) q⟩
  | succ p ih =>
    intro s μ hs hr hM h
    by_cases e : row s = []
    · rw [drN_nil e] at h
      unfold wM_drainAll_0
      rw [hM.prowN, e]
      exact ⟨fun _ => h μ hM (Fr.refl μ), fun q => absurd (by decide) q⟩
    · obtain ⟨x, l, hx⟩ := row_pos e
      obtain ⟨hg, hk⟩ := hI s hs
      rw [drN_s e] at hr h
      have hlen := hg.2.2.1
      rw [hx] at hlen
      unfold wM_drainAll_0
      rw [hM.prowN, hx, li_0, nI_leI (by omega) (by omega)]
      refine ⟨fun q => absurd q (by simp), fun _ => m_drainOne hM hg hx (fun μ1 h1 hF => ?_)⟩
      exact ih _ μ1 (hk e) hr h1 (fun μ2 h2 hF2 => h μ2 h2 (hF.trans hF2))
theorem m_drain_loop {I : St → Prop} (hI : ∀ s, I s → gdD s ∧ (row s ≠ [] → I (dr1 s))) {N : Nat} (hN : N < 2 ^ 31) {K : Int32 → Mem → Prop} : ∀ (p c : Nat) (s : St) (μ : Mem), I s → row (drN p s) = [] → c ≤ N → MR μ s → (∀ μ1, MR μ1 (drN (N - c) s) → Fr moS μ μ1 → ∀ v, K v μ1) → wM_drain_15 (nI N) K (p + 1) (nI c) μ := by
  intro p
  induction p with
  | zero =>
    intro c s μ _ hr hc hM h
    have hr' : row s = [] := hr
    rw [drN_nil hr'] at h
    unfold wM_drain_15
    rw [hM.prowN, hr', nI_leI (by omega) (by omega)]
    exact ⟨fun _ => h μ hM (Fr.refl μ) _, fun _ => ⟨fun _ => h μ hM (Fr.refl μ) _, fun q => absurd (by decide) q⟩⟩
  | succ p ih =>
    intro c s μ hs hr hc hM h
    by_cases e : row s = []
    · rw [drN_nil e] at h
      unfold wM_drain_15
      rw [hM.prowN, e, nI_leI (by omega) (by omega)]
      exact ⟨fun _ => h μ hM (Fr.refl μ) _, fun _ => ⟨fun _ => h μ hM (Fr.refl μ) _, fun q => absurd (by decide) q⟩⟩
    · obtain ⟨x, l, hx⟩ := row_pos e
      obtain ⟨hg, hk⟩ := hI s hs
      have hlen := hg.2.2.1
      rw [hx] at hlen
      unfold wM_drain_15
      rw [hM.prowN, hx, nI_leI (by omega) (by omega), li_0, nI_leI (by omega) (by omega), nI_1]
      refine ⟨fun q => ?_, fun q => ⟨fun w => absurd w (by simp), fun _ => m_drainOne hM hg hx (fun μ1 h1 hF => ?_)⟩⟩
      · have : N - c = 0 := by omega
        rw [this] at h
        exact h μ hM (Fr.refl μ) _
      · rw [drN_s e] at hr
        have : N - c = (N - (c + 1)) + 1 := by omega
        rw [this, drN_s e] at h
        exact ih (c + 1) _ μ1 (hk e) hr (by omega) h1 (fun μ2 h2 hF2 => h μ2 h2 (hF.trans hF2))
theorem c_drain_loop {I : St → Prop} (hI : ∀ s, I s → gdD s ∧ (row s ≠ [] → I (dr1 s))) {N : Nat} (hN : N < 2 ^ 31) {ι : Nat → Nat} {d : Int32} {K : Int32 → Mem → Prop} : ∀ (p c : Nat) (s : St) (μ : Mem), I s → row (drN p s) = [] → c ≤ N → CR μ s ι d (lv s) → (∀ μ1, CR μ1 (drN (N - c) s) ι d (lv (drN (N - c) s)) → Fr clS μ μ1 → ∀ v, K v μ1) → wC_drainUpTo_2 (nI N) K (p + 1) (nI c) μ := by
  have rowN : ∀ (s : St) (μ : Mem), CR μ s ι d (lv s) → mI μ 13 2 = nI (row s).length := by
    intro s μ h
    obtain ⟨f, -, -, e2, -⟩ := h.wt
    rw [List.length_map] at e2
    exact e2
  intro p
  induction p with
  | zero =>
    intro c s μ _ hr hc hM h
    have hr' : row s = [] := hr
    rw [drN_nil hr'] at h
    unfold wC_drainUpTo_2
    rw [rowN s μ hM, hr', nI_leI (by omega) (by omega)]
    exact ⟨fun _ => h μ hM (Fr.refl μ) _, fun _ => ⟨fun _ => h μ hM (Fr.refl μ) _, fun q => absurd (by decide) q⟩⟩
  | succ p ih =>
    intro c s μ hs hr hc hM h
    by_cases e : row s = []
    · rw [drN_nil e] at h
      unfold wC_drainUpTo_2
      rw [rowN s μ hM, e, nI_leI (by omega) (by omega)]
      exact ⟨fun _ => h μ hM (Fr.refl μ) _, fun _ => ⟨fun _ => h μ hM (Fr.refl μ) _, fun q => absurd (by decide) q⟩⟩
    · obtain ⟨x, l, hx⟩ := row_pos e
      obtain ⟨hg, hk⟩ := hI s hs
      have hlen := hg.2.2.1
      rw [hx] at hlen
      unfold wC_drainUpTo_2
      rw [rowN s μ hM, hx, nI_leI (by omega) (by omega), li_0, nI_leI (by omega) (by omega), nI_1]
      refine ⟨fun q => ?_, fun q => ⟨fun w => absurd w (by simp), fun _ => c_drainOne hM hg hx (fun μ1 h1 hF => ?_)⟩⟩
      · have : N - c = 0 := by omega
        rw [this] at h
        exact h μ hM (Fr.refl μ) _
      · rw [drN_s e] at hr
        have : N - c = (N - (c + 1)) + 1 := by omega
        rw [this, drN_s e] at h
        exact ih (c + 1) _ μ1 (hk e) hr (by omega) h1 (fun μ2 h2 hF2 => h μ2 h2 (hF.trans hF2))
