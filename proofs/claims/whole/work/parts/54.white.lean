/-! All white again: both sides -/
def cok (s : St) (k x : Nat) : Nat := if x < k then 0 else co s x
def wht (s : St) : St := uco s (cok s 256)
theorem cok_s (s : St) (k : Nat) : up (cok s k) k 0 = cok s (k + 1) := by
  funext l
  unfold up cok
  by_cases e : l = k
  · rw [if_pos e, if_pos (by omega)]
  · rw [if_neg e]
    by_cases w : l < k
    · rw [if_pos w, if_pos (by omega)]
    · rw [if_neg w, if_neg (by omega)]
theorem cok_0 (s : St) : cok s 0 = co s := by
  funext l
  exact if_neg (by omega)
theorem m_white_loop {s : St} {K : Int32 → Mem → Prop} : ∀ (e k : Nat) (μ : Mem), k + e = 256 → MR μ (uco s (cok s k)) → (∀ μ1, MR μ1 (wht s) → Fr moS μ μ1 → ∀ v, K v μ1) → wM_countAnew_68 K (e + 1) (nI k) μ := by
  have m24 : moS 24 := by unfold moS; omega
  intro e
  induction e with
  | zero =>
    intro k μ hk hM h
    have : k = 256 := by omega
    subst this
    unfold wM_countAnew_68
    rw [li_256, nI_leI (by omega) (by omega)]
    exact ⟨fun _ => h μ hM (Fr.refl μ) _, fun q => absurd (Nat.le_refl _) q⟩
  | succ e ih =>
    intro k μ hk hM h
    unfold wM_countAnew_68
    rw [li_256, nI_leI (by omega) (by omega), nI_clamp (by omega), nI_1]
    refine ⟨fun q => absurd q (by omega), fun _ => ⟨(nI_vp (by omega)).mpr (by omega), ?_⟩⟩
    intro μ2 e2
    subst e2
    have h2 := hM.w_co (x := k) (v := 0)
    rw [qq_uco, q_co_uco, cok_s] at h2
    exact ih (k + 1) _ (by omega) h2 (fun μ1 h1 hF v => h μ1 h1 ((Fr.sI m24).trans hF) v)
/-- colours of objects at addresses below k are white -/
def cak (s : St) (k x : Nat) : Nat := if sta s x ≠ 0 ∧ ad s x < k then 0 else co s x
theorem c_white_loop {s : St} (hw : Wf s) {ι : Nat → Nat} {d : Int32} {K : Int32 → Mem → Prop} : ∀ (e k : Nat) (μ : Mem), k + e = 128 → CR μ (uco s (cak s k)) ι d (lv s) → (∀ μ1, CR μ1 (uco s (cak s 128)) ι d (lv s) → Fr clS μ μ1 → ∀ v, K v μ1) → wC_whitenAll_10 128 K (e + 1) (nI k) μ := by
  intro e
  induction e with
  | zero =>
    intro k μ hk hM h
    have : k = 128 := by omega
    subst this
    unfold wC_whitenAll_10
    rw [li_128, nI_leI (by omega) (by omega)]
    exact ⟨fun _ => h μ hM (Fr.refl μ) _, fun q => absurd (Nat.le_refl _) q⟩
  | succ e ih =>
    intro k μ hk hM h
    have pk : mR μ 3 k = (obj s k).map ι := hM.pat k (by omega)
    unfold wC_whitenAll_10
    rw [li_128, nI_leI (by omega) (by omega), nI_clamp (by omega), nI_1, pk]
    refine ⟨fun q => absurd q (by omega), fun _ => ⟨(nI_vp (by omega)).mpr (by omega), ?_⟩⟩
    intro e2 he2
    cases ho : obj s k with
    | none =>
      rw [ho] at he2
      subst he2
      have ec : cak s (k + 1) = cak s k := by
        funext y
        unfold cak
        by_cases w : sta s y ≠ 0 ∧ ad s y < k
        · rw [if_pos w, if_pos ⟨w.1, by omega⟩]
        · rw [if_neg w, if_neg]
          rintro ⟨z1, z2⟩
          have h1 := obj_ad hw z1
          have : ad s y = k := by
            by_cases q : ad s y < k
            · exact absurd ⟨z1, q⟩ w
            · omega
          rw [this, ho] at h1
          cases h1
      rw [← ec] at hM
      exact ⟨fun _ => ih (k + 1) μ (by omega) hM h, fun y hy => (by cases hy)⟩
    | some x =>
      rw [ho] at he2
      subst he2
      obtain ⟨hx, hxk⟩ := obj_live hw ho
      refine ⟨fun q => (by cases q), fun y hy => ?_⟩
      have : ι x = y := Option.some.inj hy
      subst this
      have hi := hM.it x hx
      have h35 := hi.i35
      refine ⟨hi.o, ?_⟩
      intro μ5 e5
      subst e5
      have h2 : CR (sI μ (ι x) 6 0) _ ι d (lv s) := hM.w_co (x := x) (v := 0) hx
      have ec : up (cak s k) x 0 = cak s (k + 1) := by
        funext y
        unfold up cak
        by_cases q : y = x
        · subst q
          rw [if_pos rfl, if_pos ⟨hx, by omega⟩]
        · rw [if_neg q]
          by_cases w : sta s y ≠ 0 ∧ ad s y < k
          · rw [if_pos w, if_pos ⟨w.1, by omega⟩]
          · rw [if_neg w, if_neg]
            rintro ⟨z1, z2⟩
            have h1 := obj_ad hw z1
            have : ad s y = k := by
              by_cases q : ad s y < k
              · exact absurd ⟨z1, q⟩ w
              · omega
            rw [this, ho] at h1
            exact q (Option.some.inj h1).symm
      rw [qq_uco, q_co_uco, ec] at h2
      exact ih (k + 1) _ (by omega) h2 (fun μ1 h1 hF v => h μ1 h1 ((Fr.sI (by unfold clS; omega)).trans hF) v)
