/-! line, figure, drain, trace, pause -/
theorem line_cases (a : Int32) : (∃ j, j < 32 ∧ a = nI j) ∨ (a < 0 ∨ (¬ a < 0 ∧ 32 ≤ a)) := by
  by_cases h : a < 0
  · exact Or.inr (Or.inl h)
  · by_cases h6 : 32 ≤ a
    · exact Or.inr (Or.inr ⟨h, h6⟩)
    · obtain ⟨j, hj, e⟩ := nat_of (M := 32) (n := 31) (by decide) h h6
      exact Or.inl ⟨j, by omega, e⟩
theorem ag_gh {μ : Mem} {s : St} (h : MR μ s) : agP (gh μ) (pg s) := by
  refine ⟨fun j hj => ?_, fun l hl => ?_, ?_, ?_, ?_, ?_, ?_, ?_⟩
  · rw [gh_in (by omega)]; exact h.pcel j hj
  · rw [gh_in (by omega)]; exact h.plf l hl
  · rw [gh_in (by omega)]; exact h.phf
  · rw [gh_in (by omega)]; exact h.phe
  · rw [gh_in (by omega)]; exact h.phc
  · rw [gh_in (by omega)]; exact h.pov
  · rw [gh_in (by omega)]; exact h.poc
  · rw [gh_in (by omega)]; exact h.pcl
theorem taken_congr {A B : Gs} (h : agP A B) {l : Nat} : takenP A l ↔ takenP B l := by
  obtain ⟨-, -, h3, h4, -, h6, -, -⟩ := h
  unfold takenP
  rw [h3, h4, h6]
theorem k_line {μ : Mem} {s : St} (h : Rel μ s) (a : Int32) {V : Prop} (hV : V) {N B : Mem → Prop} (hN : ∀ μ' s', Rel μ' s' → N μ') : wL_line a (fun r126 μ125 => V ∧ wM_line a (fun r129 μ128 => wM_thrown (fun r131 μ130 => ((r131 = r126 → VAL r126 r129 N B μ130) ∧ (¬ r131 = r126 → B μ130))) μ128) μ125) μ := by
  have hR := h
  obtain ⟨h1, h2, h3, ι, h4⟩ := h
  obtain ⟨hw, -, -, -, -, -, hf⟩ := inv_facts h1.1
  unfold wL_line wC_line
  rcases line_cases a with ⟨l, hl, e⟩ | hb
  · subst e
    rw [li_32, nI_ltI (by omega) (by omega)]
    refine ⟨fun q => absurd q (nI_pos (by omega)), fun _ => ⟨fun _ => ?_, fun q => absurd hl q⟩⟩
    have model : ∀ v, (∀ μ3, Rel μ3 s → mI μ3 34 0 = v → mI μ3 17 0 = 0 → wM_isUsed (nI l) (fun r3 μ2 => ((r3 = 0 → wM_isTaken (nI l) (fun r5 μ4 => ((r5 = 0 → wM_thrown (fun r131 μ130 => ((r131 = 0 → VAL 0 0 N B μ130) ∧ (¬ r131 = 0 → B μ130))) μ4) ∧
        (¬ r5 = 0 → wM_thrown (fun r131 μ130 => ((r131 = 0 → VAL 0 2 N B μ130) ∧ (¬ r131 = 0 → B μ130))) μ4))) μ2) ∧
        (¬ r3 = 0 → wM_thrown (fun r131 μ130 => ((r131 = 0 → VAL 0 1 N B μ130) ∧ (¬ r131 = 0 → B μ130))) μ2))) μ3) →
        (vp_in 0 1 ∧ ∀ μ4, μ4 = sI μ 34 (0 : Int32).toNatClampNeg v → V ∧ wM_line (nI l) (fun r129 μ128 => wM_thrown (fun r131 μ130 => ((r131 = 0 → VAL 0 r129 N B μ130) ∧ (¬ r131 = 0 → B μ130))) μ128) μ4) := by
      intro v hv
      refine out_ok (post := fun μ4 => V ∧ wM_line (nI l) (fun r129 μ128 => wM_thrown (fun r131 μ130 => ((r131 = 0 → VAL 0 r129 N B μ130) ∧ (¬ r131 = 0 → B μ130))) μ128) μ4) ⟨hV, ?_⟩
      have hR1 := rel_out hR v
      unfold wM_line
      rw [li_32, nI_leI (by omega) (by omega)]
      refine ⟨fun q => absurd q (nI_pos (by omega)), fun _ => ⟨fun q => absurd q (by omega), fun _ => ?_⟩⟩
      unfold wM_line_16
      intro μ1 e1
      subst e1
      rw [mI_sI_self]
      exact ⟨fun _ => hv _ (rel_code hR1 0) ((mI_no (by omega)).trans (mI_sI_self _ _ _ _)) (mI_sI_self _ _ _ _), fun q => absurd (by decide) q⟩
    have zl : ∀ μ3, Rel μ3 s → zb (mI μ3 29 l) := by
      intro μ3 hR3
      rw [hR3.2.2.1.plf l hl, h1.2.2 l]
      exact Or.inl rfl
    refine c_isUsed hl h4.pl (fun u => ⟨fun q => absurd q (by decide), fun _ => ?_⟩) (fun u => ⟨fun _ => ?_, fun q => absurd rfl q⟩)
    · refine model 1 (fun μ3 hR3 e34 e17 => ?_)
      have ag := ag_gh hR3.2.2.1
      refine m_isUsed hl (zl μ3 hR3) (fun _ => ⟨fun q => absurd q (by decide), fun _ => thr_val e17 (fun _ => e34) (hN _ s hR3)⟩) (fun q => absurd ((used_congr ag hl).mpr u) q)
    · have ncl : ¬ nI (l / 8) = pg s 17 19 := by
        have : pg s 17 19 = cl s := rfl
        rw [this, h1.2.1]
        exact nI_m1 (by omega)
      refine c_isFree hl h4.lay h4.pl (fun f => ⟨fun q => absurd q (by decide), fun _ => ?_⟩) (fun f => ⟨fun _ => ?_, fun q => absurd rfl q⟩)
      · refine model 0 (fun μ3 hR3 e34 e17 => ?_)
        have ag := ag_gh hR3.2.2.1
        refine m_isUsed hl (zl μ3 hR3) (fun q => absurd ((used_congr ag hl).mp q) u) (fun _ => ⟨fun _ => ?_, fun q => absurd rfl q⟩)
        exact m_isTaken hl (fun q => absurd ((taken_congr ag).mp q) f.2.1) (fun _ => ⟨fun _ => thr_val e17 (fun _ => e34) (hN _ s hR3), fun q => absurd rfl q⟩)
      · refine model 2 (fun μ3 hR3 e34 e17 => ?_)
        have ag := ag_gh hR3.2.2.1
        refine m_isUsed hl (zl μ3 hR3) (fun q => absurd ((used_congr ag hl).mp q) u) (fun _ => ⟨fun _ => ?_, fun q => absurd rfl q⟩)
        exact m_isTaken hl (fun _ => ⟨fun q => absurd q (by decide), fun _ => thr_val e17 (fun _ => e34) (hN _ s hR3)⟩) (fun q => absurd ⟨u, fun z => q ((taken_congr ag).mpr z), ncl⟩ f)
  · have m9 : wM_line a (fun r129 μ128 => wM_thrown (fun r131 μ130 => ((r131 = 1 → VAL 1 r129 N B μ130) ∧ (¬ r131 = 1 → B μ130))) μ128) (bump μ 9) := by
      have c : wM_line_15 a (fun r129 μ128 => wM_thrown (fun r131 μ130 => ((r131 = 1 → VAL 1 r129 N B μ130) ∧ (¬ r131 = 1 → B μ130))) μ128) (bump μ 9) := by
        unfold wM_line_15 wM_line_16
        intro μ1 e1
        subst e1
        rw [mI_sI_self]
        exact ⟨fun q => absurd q z_no1, fun _ => thr_val (mI_sI_self _ _ _ _) (fun q => absurd q (by decide)) (hN _ s (rel_code (rel_bump hR 9) 1))⟩
      unfold wM_line
      refine ⟨fun _ => c, fun q => ⟨fun _ => c, fun w => ?_⟩⟩
      rcases hb with z | z
      · exact absurd z q
      · exact absurd z.2 w
    refine ⟨fun _ => ⟨fun _ => ⟨hV, m9⟩, fun q => absurd rfl q⟩, fun q => ⟨fun w => ?_, fun _ => ⟨fun _ => ⟨hV, m9⟩, fun q => absurd rfl q⟩⟩⟩
    rcases hb with z | z
    · exact absurd z q
    · exfalso
      have z2 := z.2
      rw [← Int32.not_lt] at z2
      exact z2 w
def cntS (s : St) (L k : Nat) : Nat := sm (fun x => if sta s x = 1 ∨ L < sta s x then 1 else 0) k
theorem m_objs {μ : Mem} {s : St} (h : MR μ s) (hb : Bd s) {L : Nat} (hL : L < 100) {K : Int32 → Int32 → Mem → Prop} : ∀ (e k : Nat), k + e = 256 → (∀ v, K (nI (cntS s L 256)) v μ) → wM_objects_4 (nI L) K (e + 1) (nI (cntS s L k)) (nI k) μ := by
  intro e
  induction e with
  | zero =>
    intro k hk hp
    have : k = 256 := by omega
    subst this
    unfold wM_objects_4
    rw [li_256, nI_leI (by omega) (by omega)]
    exact ⟨fun _ => hp _, fun q => absurd (Nat.le_refl _) q⟩
  | succ e ih =>
    intro k hk hp
    have b1 := hb.1 k
    have hs : cntS s L (k + 1) = cntS s L k + (if sta s k = 1 ∨ L < sta s k then 1 else 0) := rfl
    have nxt := ih (k + 1) (by omega) hp
    unfold wM_objects_4
    rw [li_256, nI_leI (by omega) (by omega), nI_clamp (by omega), h.psta k (by omega), li_1, nI_eq (by omega) (by omega), nI_leI (by omega) (by omega), nI_add, nI_add]
    refine ⟨fun q => absurd q (by omega), fun _ => ⟨(nI_vp (by omega)).mpr (by omega), fun q => ?_, fun q => ⟨fun w => ?_, fun w => ?_⟩⟩⟩
    · rw [if_pos (Or.inl q)] at hs
      rw [← hs]
      exact nxt
    · rw [if_neg (by omega)] at hs
      rw [show cntS s L k = cntS s L (k + 1) by omega]
      exact nxt
    · rw [if_pos (Or.inr (by omega))] at hs
      rw [← hs]
      exact nxt
theorem fig_cases (k : Int32) : (∃ j, j ≤ 8 ∧ k = nI j) ∨ (k < 0 ∨ (¬ k < 0 ∧ 8 < k)) := by
  by_cases h : k < 0
  · exact Or.inr (Or.inl h)
  · by_cases h6 : 8 < k
    · exact Or.inr (Or.inr ⟨h, h6⟩)
    · obtain ⟨j, hj, e⟩ := nI_of2 (M := 8) (n := 8) (by decide) h (Int32.not_lt.mp h6)
      exact Or.inl ⟨j, hj, e⟩
theorem fig_bad {k : Int32} (hb : k < 0 ∨ (¬ k < 0 ∧ 8 < k)) (j : Nat) (hj : j ≤ 8) : ¬ k = nI j := by
  intro e
  subst e
  rcases hb with z | z
  · exact nI_pos (by omega) z
  · have z2 := z.2
    have e8 : (8 : Int32) = nI 8 := rfl
    rw [e8, nI_ltI (by omega) (by omega)] at z2
    omega
