/-! Used lines of a block: both sides -/
theorem CR.colive {μ : Mem} {s : St} {ι : Nat → Nat} {d : Int32} {P : Nat → Prop} {f g : Nat → Nat} (h : CR μ (uco s f) ι d P) (e : ∀ x, P x → g x = f x) : CR μ (uco s g) ι d P := by
  refine h.mk (Fr.refl (S := fun _ => False) μ) (fun x hx => ?_) h.pat h.prt h.pbf h.pl h.wt h.plo h.ptr h.pps h.pmv h.pwh
  exact (h.it x hx).frame (Fr.refl (S := fun _ => False) μ) rfl rfl rfl rfl rfl rfl rfl (e x hx) rfl rfl
theorem c_whiten {s : St} (hw : Wf s) {ι : Nat → Nat} {d : Int32} {μ : Mem} {post : Mem → Prop} (h : CR μ s ι d (lv s)) (hp : ∀ μ1, CR μ1 (wht s) ι d (lv s) → Fr clS μ μ1 → post μ1) : wC_whitenAll post μ := by
  unfold wC_whitenAll
  refine ⟨129, c_white_loop (ι := ι) (d := d) hw 128 0 μ (by omega) ?_ (fun μ1 h1 hF v => hp μ1 (h1.colive (fun x hx => ?_)) hF)⟩
  · have e0 : cak s 0 = co s := by
      funext x
      exact if_neg (fun z => by have := z.2; omega)
    rw [e0]
    exact h.ext (by simp only [eqS, q_cel_uco, q_sta_uco, q_ad_uco, q_sz_uco, q_tg_uco, q_ct_uco, q_co_uco, q_fl_uco, q_lg_uco, q_nx_uco, q_rt_uco, q_bf_uco, q_hf_uco, q_he_uco, q_hc_uco, q_ov_uco, q_oc_uco, q_cl_uco, q_lf_uco, q_row_uco, q_log_uco, q_tr_uco, q_ps_uco, q_mv_uco, q_wh_uco, and_self])
  · unfold cok cak
    rw [if_pos (hw.lt hx), if_pos ⟨hx, ad_lt hw hx⟩]
noncomputable def uS (s : St) (l : Nat) : Nat := haveI := Classical.propDecidable (usedP (pg s) l); if usedP (pg s) l then 1 else 0
theorem uS_1 {s : St} {l : Nat} (h : usedP (pg s) l) : uS s l = 1 := if_pos h
theorem uS_0 {s : St} {l : Nat} (h : ¬ usedP (pg s) l) : uS s l = 0 := if_neg h
noncomputable def uB (s : St) (b k : Nat) : Nat := sm (fun i => uS s (8 * b + i)) k
theorem uB_s (s : St) (b k : Nat) : uB s b (k + 1) = uB s b k + uS s (8 * b + k) := rfl
theorem uB_le (s : St) (b k : Nat) : uB s b k ≤ k := by
  unfold uB
  have h : sm (fun i => uS s (8 * b + i)) k ≤ sm (fun _ => 1) k := sm_le (fun i _ => by unfold uS; split <;> omega)
  rw [sm_1s] at h
  exact h
theorem used_congr {A B : Gs} (h : agP A B) {l : Nat} (hl : l < 32) : usedP A l ↔ usedP B l := by
  obtain ⟨h1, h2, -⟩ := h
  unfold usedP cntL ow
  rw [h1 (4 * l) (by omega), h1 (4 * l + 1) (by omega), h1 (4 * l + 2) (by omega), h1 (4 * l + 3) (by omega), h2 l hl]
theorem m_used_loop {s : St} {b : Nat} (hb : b < 4) (hI : placeI (pg s)) {μ : Mem} (h : MR μ s) {K : Int32 → Int32 → Mem → Prop} : ∀ (e k : Nat), k + e = 8 → (∀ v, K (nI (uB s b 8)) v μ) → wM_usedLines_7 (nI b) K (e + 1) (nI (uB s b k)) (nI (8 * b + k)) μ := by
  have e8 : 8 * nI b + 8 = nI (8 * b + 8) := by rw [← nI_add, ← nI_mul]; rfl
  intro e
  induction e with
  | zero =>
    intro k hk hp
    have : k = 8 := by omega
    subst this
    unfold wM_usedLines_7
    rw [e8, nI_leI (by omega) (by omega)]
    exact ⟨fun _ => hp _, fun q => absurd (Nat.le_refl _) q⟩
  | succ e ih =>
    intro k hk hp
    have i := ih (k + 1) (by omega) hp
    rw [uB_s] at i
    have hz : zb (mI μ 29 (8 * b + k)) := by
      rw [h.plf _ (by omega)]
      exact hI.1 (8 * b + k) (by omega)
    unfold wM_usedLines_7
    rw [e8, nI_leI (by omega) (by omega), nI_1, nI_1]
    refine ⟨fun q => absurd q (by omega), fun _ => m_isUsed (by omega) hz (fun q => ⟨fun w => absurd w (by decide), fun _ => ?_⟩) (fun q => ⟨fun _ => ?_, fun w => absurd rfl w⟩)⟩
    · rw [uS_1 ((used_congr h.ag (by omega)).mp q)] at i
      exact i
    · rw [uS_0 (fun z => q ((used_congr h.ag (by omega)).mpr z))] at i
      exact i
theorem m_usedLines {s : St} {b : Nat} (hb : b < 4) (hI : placeI (pg s)) {μ : Mem} (h : MR μ s) {post : Int32 → Mem → Prop} (hp : post (nI (uB s b 8)) μ) : wM_usedLines (nI b) post μ := by
  have e8 : 8 * nI b = nI (8 * b) := by rw [li_8, nI_mul]
  unfold wM_usedLines
  rw [e8]
  exact ⟨9, m_used_loop hb hI h 8 0 (by omega) (fun _ => hp)⟩
theorem c_used_loop {s : St} {b : Nat} (hb : b < 4) {μ : Mem} (h : PR μ (pg s)) {K : Int32 → Int32 → Mem → Prop} : ∀ (e k : Nat), k + e = 8 → (∀ v, K (nI (uB s b 8)) v μ) → wP_usedLines_7 (nI b) K (e + 1) (nI (uB s b k)) (nI (8 * b + k)) μ := by
  have e8 : (nI b + 1) * 8 = nI (8 * b + 8) := by
    rw [nI_1, li_8, nI_mul]
    congr 1
    omega
  intro e
  induction e with
  | zero =>
    intro k hk hp
    have : k = 8 := by omega
    subst this
    unfold wP_usedLines_7
    rw [e8, nI_leI (by omega) (by omega)]
    exact ⟨fun _ => hp _, fun q => absurd (Nat.le_refl _) q⟩
  | succ e ih =>
    intro k hk hp
    have i := ih (k + 1) (by omega) hp
    rw [uB_s] at i
    unfold wP_usedLines_7
    rw [e8, nI_leI (by omega) (by omega), nI_1, nI_1]
    refine ⟨fun q => absurd q (by omega), fun _ => c_isUsed (by omega) h (fun q => ⟨fun w => absurd w (by decide), fun _ => ?_⟩) (fun q => ⟨fun _ => ?_, fun w => absurd rfl w⟩)⟩
    · rw [uS_1 q] at i
      exact i
    · rw [uS_0 q] at i
      exact i
theorem c_usedLines {s : St} {b : Nat} (hb : b < 4) {μ : Mem} (h : PR μ (pg s)) {post : Int32 → Mem → Prop} (hp : post (nI (uB s b 8)) μ) : wP_usedLines (nI b) post μ := by
  have e8 : nI b * 8 = nI (8 * b) := by
    rw [li_8, nI_mul, Nat.mul_comm]
  unfold wP_usedLines
  rw [e8]
  exact ⟨9, c_used_loop hb h 8 0 (by omega) (fun _ => hp)⟩
