/-! The objects of a block move out: both sides -/
noncomputable def clb (s : St) (b : Nat) : Nat → St
  | 0 => s
  | k + 1 => match obj (clb s b k) (32 * b + k) with
    | none => clb s b k
    | some x => shf (clb s b k) x
theorem clb_n {s : St} {b k : Nat} (h : obj (clb s b k) (32 * b + k) = none) : clb s b (k + 1) = clb s b k := by
  conv => lhs; unfold clb
  rw [h]
theorem clb_y {s : St} {b k x : Nat} (h : obj (clb s b k) (32 * b + k) = some x) : clb s b (k + 1) = shf (clb s b k) x := by
  conv => lhs; unfold clb
  rw [h]
theorem clb_wf {s : St} (hw : Wf s) (b k : Nat) : Wf (clb s b k) ∧ sta (clb s b k) = sta s := by
  induction k with
  | zero => exact ⟨hw, rfl⟩
  | succ k ih =>
    cases ho : obj (clb s b k) (32 * b + k) with
    | none => rw [clb_n ho]; exact ih
    | some x =>
      rw [clb_y ho]
      exact ⟨wf_shf ih.1 (obj_live ih.1 ho).1, (shf_same _ x).1.trans ih.2⟩
theorem m_clear_loop {s : St} {b : Nat} (hw : Wf s) (hb : b < 4) {K : Int32 → Mem → Prop} : ∀ (e k : Nat) (μ : Mem), k + e = 32 → MR μ (clb s b k) → (∀ μ1, MR μ1 (clb s b 32) → Fr moS μ μ1 → ∀ v, K v μ1) → wM_clearBlock_63 (nI b) K (e + 1) (nI (32 * b + k)) μ := by
  have e32 : 32 * nI b + 32 = nI (32 * b + 32) := by rw [← nI_add, ← nI_mul]; rfl
  intro e
  induction e with
  | zero =>
    intro k μ hk hM h
    have : k = 32 := by omega
    subst this
    unfold wM_clearBlock_63
    rw [e32, nI_leI (by omega) (by omega)]
    exact ⟨fun _ => h μ hM (Fr.refl μ) _, fun q => absurd (Nat.le_refl _) q⟩
  | succ e ih =>
    intro k μ hk hM h
    have hwk := (clb_wf hw b k).1
    unfold wM_clearBlock_63
    rw [e32, nI_leI (by omega) (by omega), nI_1]
    refine ⟨fun q => absurd q (by omega), fun _ => m_objectAt hM hwk (by omega) (fun _ => ?_) (fun q => by omega)⟩
    cases ho : obj (clb s b k) (32 * b + k) with
    | none =>
      rw [← clb_n ho] at hM
      exact ⟨fun _ => ih (k + 1) μ (by omega) hM h, fun q => absurd m1_neg q⟩
    | some x =>
      have hx := (obj_live hwk ho).1
      have hlt := hwk.lt hx
      have ey : eo (some x) = nI x := rfl
      rw [ey]
      refine ⟨fun q => absurd q (nI_pos (by omega)), fun _ => m_shift hM hwk hx (fun μ1 h1 hF => ?_)⟩
      rw [← clb_y ho] at h1
      exact ih (k + 1) μ1 (by omega) h1 (fun μ2 h2 hF2 v => h μ2 h2 (hF.fr.trans hF2) v)
theorem c_clear_loop31 {s : St} {b : Nat} (hw : Wf s) (hb : b < 4) {ι : Nat → Nat} {d : Int32} {K : Int32 → Mem → Prop} : ∀ (e k : Nat) (μ : Mem), k + e = 32 → CR μ (clb s b k) ι d (lv s) → (∀ μ1, CR μ1 (clb s b 32) ι d (lv s) → Fr clS μ μ1 → ∀ v, K v μ1) → wC_clearSparsestBlock_31 (nI b) K (e + 1) (nI k) μ := by
  intro e
  induction e with
  | zero =>
    intro k μ hk hM h
    have : k = 32 := by omega
    subst this
    unfold wC_clearSparsestBlock_31
    rw [li_32, nI_leI (by omega) (by omega)]
    exact ⟨fun _ => h μ hM (Fr.refl μ) _, fun q => absurd (Nat.le_refl _) q⟩
  | succ e ih =>
    intro k μ hk hM h
    obtain ⟨hwk, hst⟩ := clb_wf hw b k
    have ea : nI b * 32 + nI k = nI (32 * b + k) := by
      rw [li_32, nI_mul, nI_add, Nat.mul_comm]
    unfold wC_clearSparsestBlock_31
    rw [ea, li_32, nI_leI (by omega) (by omega), nI_clamp (by omega), nI_1, hM.pat _ (by omega)]
    refine ⟨fun q => absurd q (by omega), fun _ => ⟨(nI_vp (by omega)).mpr (by omega), ?_⟩⟩
    intro e6 he6
    cases ho : obj (clb s b k) (32 * b + k) with
    | none =>
      rw [ho] at he6
      subst he6
      rw [← clb_n ho] at hM
      exact ⟨fun _ => ih (k + 1) μ (by omega) hM h, fun y hy => (by cases hy)⟩
    | some x =>
      rw [ho] at he6
      subst he6
      have hx := (obj_live hwk ho).1
      have hxs : lv s x := by
        unfold lv
        rw [← hst]
        exact hx
      refine ⟨fun q => (by cases q), fun y hy => ?_⟩
      have : ι x = y := Option.some.inj hy
      subst this
      refine ⟨(hM.it x hxs).o, c_shift hM hwk hx hxs (fun μ1 h1 hF => ?_)⟩
      rw [← clb_y ho] at h1
      exact ih (k + 1) μ1 (by omega) h1 (fun μ2 h2 hF2 v => h μ2 h2 ((hF.mono cm_cl).trans hF2) v)
