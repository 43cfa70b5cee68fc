/-! The law's loop -/
theorem law_end {L c : Nat} (hL : L ≤ 2048) (hc : c ≤ L / 4) : (Int32.ofNat L - 4) < nI (4 * c) ↔ L < 4 * c + 4 := by
  by_cases h4 : 4 ≤ L
  · have e : Int32.ofNat L - 4 = nI (L - 4) := nI_sub (a := L) (b := 4) h4
    rw [e, nI_ltI (by omega) (by omega)]
    omega
  · have hc0 : c = 0 := by omega
    subst hc0
    refine ⟨fun _ => by omega, fun _ => ?_⟩
    have : L = 0 ∨ L = 1 ∨ L = 2 ∨ L = 3 := by omega
    rcases this with e | e | e | e
    all_goals subst e; decide
theorem law_loop {L : Nat} {xs : Nat → Int32} (hL : L ≤ 2048) {k post : Int32 → Mem → Prop} (hk : ∀ v μ, k v μ) : ∀ (e c : Nat) (μ : Mem) (s : St), Rel μ s → c ≤ L / 4 → L / 4 < c + e → wL_law_23 L xs k post e (nI (4 * c)) μ := by
  intro e
  induction e with
  | zero => intro c μ s _ h1 h2; omega
  | succ e ih =>
    intro c μ s hR h1 h2
    have e4 : nI (4 * c) + 4 = nI (4 * (c + 1)) := by
      rw [li_4, nI_add]
      rfl
    unfold wL_law_23
    rw [law_end hL h1]
    refine ⟨fun _ => hk _ _, fun hq => ?_⟩
    have hq' : 4 * c + 4 ≤ L := by omega
    have nxt : ∀ μ' s', Rel μ' s' → wL_law_23 L xs k post e (nI (4 * c) + 4) μ' := by
      intro μ' s' hR'
      rw [e4]
      exact ih (c + 1) μ' s' hR' (by omega) (by omega)
    have v0 : vp_in (nI (4 * c)) L := (nI_vp (by omega)).mpr (by omega)
    have v1 : vp_in (nI (4 * c) + 1) L := by
      rw [nI_1]
      exact (nI_vp (by omega)).mpr (by omega)
    have v2 : vp_in (nI (4 * c) + 2) L := by
      rw [li_2, nI_add]
      exact (nI_vp (by omega)).mpr (by omega)
    have v3 : vp_in (nI (4 * c) + 3) L := by
      rw [li_3, nI_add]
      exact (nI_vp (by omega)).mpr (by omega)
    refine ⟨v0, fun _ => ⟨v1, v2, v3, k_allocate hR _ _ _ v1 v2 v3 nxt⟩, fun _ => ⟨v1, k_drop hR _ v1 nxt⟩, fun _ => ⟨v1, v2, k_copy hR _ _ v1 v2 nxt⟩, fun _ => ⟨v1, v2, v3, k_load hR _ _ _ v1 v2 v3 nxt⟩, fun _ => ⟨v1, v2, v3, k_store hR _ _ _ v1 v2 v3 nxt⟩, fun _ => ⟨v1, k_drain hR _ v1 nxt⟩, fun _ => ⟨v1, k_trace hR _ v1 nxt⟩, fun _ => ⟨v1, fun w => ?_, fun w => ?_⟩, fun _ => ⟨v1, k_root hR _ v1 nxt⟩, fun _ => ⟨v1, v2, k_field hR _ _ v1 v2 nxt⟩, fun _ => ⟨v1, v2, k_object hR _ _ v1 v2 nxt⟩, fun _ => ⟨v1, k_line hR _ v1 nxt⟩, fun _ => ⟨v1, k_figure hR _ v1 nxt⟩, fun _ _ _ _ _ _ _ _ _ _ _ _ _ => nxt _ _ hR⟩
    · unfold wL_law_535
      refine k_pause (b := false) hR ⟨fun q => (by cases q), fun q => absurd rfl q⟩ (fun μ1 m1 hc => ⟨v1, fun _ => ?_, fun q => absurd w q⟩)
      exact k_pause2 (b := false) hR.1 hR.2.1 m1 ⟨fun q => (by cases q), fun q => absurd rfl q⟩ hc (fun μ2 hR2 => ⟨fun _ => nxt _ _ hR2, fun q => absurd rfl q⟩)
    · unfold wL_law_535
      refine k_pause (b := true) hR ⟨fun _ => by decide, fun _ => rfl⟩ (fun μ1 m1 hc => ⟨v1, fun q => absurd q w, fun _ => ?_⟩)
      exact k_pause2 (b := true) hR.1 hR.2.1 m1 ⟨fun _ => by decide, fun _ => rfl⟩ hc (fun μ2 hR2 => ⟨fun _ => nxt _ _ hR2, fun q => absurd rfl q⟩)
