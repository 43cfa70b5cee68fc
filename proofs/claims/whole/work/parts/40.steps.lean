/-! Steps one after another -/
def noG (s : St) : Prop := lst (gry s) 128 0 = none
noncomputable def stN : Nat → St → St
  | 0, s => s
  | n + 1, s => haveI := Classical.propDecidable (noG s); if noG s then s else stN n (st1 s)
theorem stN_nil {s : St} (h : noG s) (n : Nat) : stN n s = s := by
  cases n with
  | zero => rfl
  | succ n => unfold stN; exact if_pos h
theorem stN_s {s : St} (h : ¬ noG s) (n : Nat) : stN (n + 1) s = stN n (st1 s) := by
  conv => lhs; unfold stN
  exact if_neg h
theorem stN_more {p : Nat} : ∀ (s : St) (n : Nat), noG (stN p s) → p ≤ n → stN n s = stN p s := by
  induction p with
  | zero =>
    intro s n h _
    exact stN_nil h n
  | succ p ih =>
    intro s n h hn
    by_cases e : noG s
    · rw [stN_nil e, stN_nil e]
    · cases n with
      | zero => omega
      | succ n =>
        rw [stN_s e] at h
        rw [stN_s e, stN_s e]
        exact ih _ n h (by omega)
theorem stN_keep {I : St → Prop} (hI : ∀ s, I s → gdS s ∧ (¬ noG s → I (st1 s))) : ∀ n s, I s → I (stN n s) := by
  intro n
  induction n with
  | zero => intro s h; exact h
  | succ n ih =>
    intro s h
    by_cases e : noG s
    · rw [stN_nil e]; exact h
    · rw [stN_s e]
      exact ih _ ((hI s h).2 e)
theorem lst_no {p : Nat → Prop} {d k : Nat} (h : lst p d k = none) : ∀ j, k ≤ j → j < k + d → ¬ p j := by
  induction d generalizing k with
  | zero => intro j h1 h2; omega
  | succ d ih =>
    by_cases hp : p k
    · rw [lst_hit hp] at h; cases h
    · rw [lst_miss hp] at h
      intro j h1 h2
      by_cases e : j = k
      · subst e; exact hp
      · exact ih h j (by omega) (by omega)
theorem noG_iff {s : St} (hw : Wf s) : noG s ↔ gN s = 0 := by
  constructor
  · intro h
    refine sm_zero (fun x _ => if_neg (fun z => ?_))
    have hx : sta s x ≠ 0 := by omega
    exact lst_no h (ad s x) (by omega) (by have := ad_lt hw hx; omega) ⟨x, obj_ad hw hx, z.1, z.2⟩
  · intro h
    unfold noG
    cases hl : lst (gry s) 128 0 with
    | none => rfl
    | some a =>
      obtain ⟨⟨x, ho, h1, h2⟩, -, -⟩ := lst_some hl
      have hx := (obj_live hw ho).1
      have := sm_pos (f := fun x => if sta s x = 2 ∧ co s x = 1 then 1 else 0) (hw.lt hx) h
      rw [if_pos ⟨h1, h2⟩] at this
      omega
theorem gN_le (s : St) : gN s ≤ 256 := by
  have h : gN s ≤ sm (fun _ => 1) 256 := sm_le (fun x _ => by split <;> omega)
  rw [sm_1s] at h
  exact h
theorem c_steps_loop {I : St → Prop} (hI : ∀ s, I s → gdS s ∧ (¬ noG s → I (st1 s))) {N : Nat} (hN : N < 2 ^ 31) {ι : Nat → Nat} {d : Int32} {K : Int32 → Int32 → Mem → Prop} : ∀ (p c : Nat) (s : St) (μ : Mem), I s → noG (stN p s) → c ≤ N → CR μ s ι d (lv s) → (∀ μ1, CR μ1 (stN (N - c) s) ι d (lv (stN (N - c) s)) → Fr clS μ μ1 → ∀ u v, K u v μ1) → wC_stepUpTo_4 (nI N) K (p + 2) 1 (nI c) μ := by
  have fin : ∀ (p c : Nat) (s : St) (μ : Mem), I s → noG s → c ≤ N → CR μ s ι d (lv s) → (∀ μ1, CR μ1 (stN (N - c) s) ι d (lv (stN (N - c) s)) → Fr clS μ μ1 → ∀ u v, K u v μ1) → wC_stepUpTo_4 (nI N) K (p + 2) 1 (nI c) μ := by
    intro p c s μ hs hr hc hM h
    rw [stN_nil hr] at h
    unfold wC_stepUpTo_4
    rw [nI_leI (by omega) (by omega)]
    refine ⟨fun _ => h μ hM (Fr.refl μ) _ _, fun _ => ⟨fun _ => h μ hM (Fr.refl μ) _ _, fun _ => ?_⟩⟩
    refine c_first hM (hI s hs).1 (fun q => absurd hr q) (fun _ => ?_)
    unfold wC_stepUpTo_4
    exact ⟨fun _ => h μ hM (Fr.refl μ) _ _, fun _ => ⟨fun _ => h μ hM (Fr.refl μ) _ _, fun q => absurd rfl q⟩⟩
  intro p
  induction p with
  | zero =>
    intro c s μ hs hr hc hM h
    exact fin 0 c s μ hs hr hc hM h
  | succ p ih =>
    intro c s μ hs hr hc hM h
    by_cases e : noG s
    · exact fin (p + 1) c s μ hs e hc hM h
    · obtain ⟨hg, hk⟩ := hI s hs
      unfold wC_stepUpTo_4
      rw [nI_leI (by omega) (by omega), nI_1]
      refine ⟨fun q => ?_, fun q => ⟨fun w => absurd w (by decide), fun _ => c_first hM hg (fun _ μ1 h1 hF => ?_) (fun q => absurd q e)⟩⟩
      · have : N - c = 0 := by omega
        rw [this] at h
        exact h μ hM (Fr.refl μ) _ _
      · rw [stN_s e] at hr
        have : N - c = (N - (c + 1)) + 1 := by omega
        rw [this, stN_s e] at h
        exact ih (c + 1) _ μ1 (hk e) hr (by omega) h1 (fun μ2 h2 hF2 => h μ2 h2 (hF.trans hF2))
theorem m_trace_loop {I : St → Prop} (hI : ∀ s, I s → gdS s ∧ (¬ noG s → I (st1 s))) {N : Nat} (hN : N < 2 ^ 31) {K : Int32 → Mem → Prop} : ∀ (p c : Nat) (s : St) (μ : Mem), I s → noG (stN p s) → c ≤ N → MR μ s → (∀ μ1, MR μ1 (stN (N - c) s) → Fr moS μ μ1 → ∀ v, K v μ1) → wM_trace_35 (nI N) K (p + 1) (nI c) μ := by
  have fin : ∀ (p c : Nat) (s : St) (μ : Mem), I s → noG s → c ≤ N → MR μ s → (∀ μ1, MR μ1 (stN (N - c) s) → Fr moS μ μ1 → ∀ v, K v μ1) → wM_trace_35 (nI N) K (p + 1) (nI c) μ := by
    intro p c s μ hs hr hc hM h
    rw [stN_nil hr] at h
    obtain ⟨hg, -⟩ := hI s hs
    unfold wM_trace_35
    rw [nI_leI (by omega) (by omega)]
    refine ⟨fun _ => h μ hM (Fr.refl μ) _, fun _ => m_greys hM hg.2.1 ⟨fun _ => h μ hM (Fr.refl μ) _, fun q => ?_⟩⟩
    rw [(noG_iff hg.1).mp hr] at q
    exact absurd (by decide) q
  intro p
  induction p with
  | zero =>
    intro c s μ hs hr hc hM h
    exact fin 0 c s μ hs hr hc hM h
  | succ p ih =>
    intro c s μ hs hr hc hM h
    by_cases e : noG s
    · exact fin (p + 1) c s μ hs e hc hM h
    · obtain ⟨hg, hk⟩ := hI s hs
      have hpos : ¬ gN s = 0 := fun z => e ((noG_iff hg.1).mpr z)
      have hle := gN_le s
      unfold wM_trace_35
      rw [nI_leI (by omega) (by omega), nI_1]
      refine ⟨fun q => ?_, fun q => m_greys hM hg.2.1 ⟨fun w => ?_, fun _ => m_step hM hg e (fun μ1 h1 hF => ?_)⟩⟩
      · have : N - c = 0 := by omega
        rw [this] at h
        exact h μ hM (Fr.refl μ) _
      · exfalso
        rw [li_0, nI_leI (by omega) (by omega)] at w
        omega
      · rw [stN_s e] at hr
        have : N - c = (N - (c + 1)) + 1 := by omega
        rw [this, stN_s e] at h
        exact ih (c + 1) _ μ1 (hk e) hr (by omega) h1 (fun μ2 h2 hF2 => h μ2 h2 (hF.trans hF2))
theorem m_collect_loop {I : St → Prop} (hI : ∀ s, I s → gdS s ∧ (¬ noG s → I (st1 s))) {K : Mem → Prop} : ∀ (p : Nat) (s : St) (μ : Mem), I s → noG (stN p s) → MR μ s → (∀ μ1, MR μ1 (stN p s) → Fr moS μ μ1 → K μ1) → wM_collect_6 K (p + 1) μ := by
  have fin : ∀ (p : Nat) (s : St) (μ : Mem), I s → noG s → MR μ s → (∀ μ1, MR μ1 (stN p s) → Fr moS μ μ1 → K μ1) → wM_collect_6 K (p + 1) μ := by
    intro p s μ hs hr hM h
    rw [stN_nil hr] at h
    obtain ⟨hg, -⟩ := hI s hs
    unfold wM_collect_6
    refine m_greys hM hg.2.1 ⟨fun _ => h μ hM (Fr.refl μ), fun q => ?_⟩
    rw [(noG_iff hg.1).mp hr] at q
    exact absurd (by decide) q
  intro p
  induction p with
  | zero =>
    intro s μ hs hr hM h
    exact fin 0 s μ hs hr hM h
  | succ p ih =>
    intro s μ hs hr hM h
    by_cases e : noG s
    · exact fin (p + 1) s μ hs e hM h
    · obtain ⟨hg, hk⟩ := hI s hs
      have hpos : ¬ gN s = 0 := fun z => e ((noG_iff hg.1).mpr z)
      have hle := gN_le s
      unfold wM_collect_6
      refine m_greys hM hg.2.1 ⟨fun w => ?_, fun _ => m_step hM hg e (fun μ1 h1 hF => ?_)⟩
      · exfalso
        rw [li_0, nI_leI (by omega) (by omega)] at w
        omega
      · rw [stN_s e] at hr h
        exact ih _ μ1 (hk e) hr h1 (fun μ2 h2 hF2 => h μ2 h2 (hF.trans hF2))
