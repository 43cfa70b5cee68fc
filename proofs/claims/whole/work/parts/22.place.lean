/-! Where the next object goes -/
noncomputable def lst (p : Nat → Prop) : Nat → Nat → Option Nat
  | 0, _ => none
  | d + 1, k => haveI := Classical.propDecidable (p k); if p k then some k else lst p d (k + 1)
theorem lst_hit {p : Nat → Prop} {d k : Nat} (h : p k) : lst p (d + 1) k = some k := by
  unfold lst
  rw [if_pos h]
theorem lst_miss {p : Nat → Prop} {d k : Nat} (h : ¬ p k) : lst p (d + 1) k = lst p d (k + 1) := by
  conv => lhs; unfold lst
  rw [if_neg h]
theorem lst_some {p : Nat → Prop} {d k j : Nat} (h : lst p d k = some j) : p j ∧ k ≤ j ∧ j < k + d := by
  induction d generalizing k with
  | zero => cases h
  | succ d ih =>
    by_cases hp : p k
    · rw [lst_hit hp] at h
      cases h
      exact ⟨hp, Nat.le_refl _, by omega⟩
    · rw [lst_miss hp] at h
      have := ih h
      exact ⟨this.1, by omega, by omega⟩
/-- the end of a row of free lines of one block, from k on -/
noncomputable def runE (A : Gs) (b : Nat) : Nat → Nat → Nat
  | 0, k => k
  | d + 1, k => haveI := Classical.propDecidable (freeP A k); if k < b then (if freeP A k then runE A b d (k + 1) else k) else k
theorem runE_out {A : Gs} {b d k : Nat} (h : ¬ k < b) : runE A b (d + 1) k = k := by unfold runE; rw [if_neg h]
theorem runE_stop {A : Gs} {b d k : Nat} (h : k < b) (h2 : ¬ freeP A k) : runE A b (d + 1) k = k := by unfold runE; rw [if_pos h, if_neg h2]
theorem runE_on {A : Gs} {b d k : Nat} (h : k < b) (h2 : freeP A k) : runE A b (d + 1) k = runE A b d (k + 1) := by
  conv => lhs; unfold runE
  rw [if_pos h, if_pos h2]
theorem runE_le {A : Gs} {b d k : Nat} (h : k ≤ b) : k ≤ runE A b d k ∧ runE A b d k ≤ b := by
  induction d generalizing k with
  | zero => exact ⟨Nat.le_refl _, h⟩
  | succ d ih =>
    by_cases h1 : k < b
    · by_cases h2 : freeP A k
      · rw [runE_on h1 h2]
        have := ih (k := k + 1) (by omega)
        omega
      · rw [runE_stop h1 h2]; omega
    · rw [runE_out h1]; omega
def freeB (A : Gs) (b : Nat) : Prop := ∀ l, 8 * b ≤ l → l < 8 * b + 8 → freeP A l
def num (x : Int32) : Nat := x.toNatClampNeg
noncomputable def fromL (A : Gs) : Nat := haveI := Classical.propDecidable (A 17 13 = -1); if A 17 13 = -1 then 0 else num (A 17 14)
noncomputable def lineG (A : Gs) (n : Nat) : Int32 × Gs := match lst (fun k => freeP A ((fromL A + k) % 32)) 32 0 with
  | none => (-1, A)
  | some k => (nI (4 * ((fromL A + k) % 32)), uI (uI (uI A 17 13 (nI ((fromL A + k) % 32))) 17 14 (nI (runE A (((fromL A + k) % 32 / 8 + 1) * 8) 8 ((fromL A + k) % 32 + 1)))) 17 15 (nI (4 * ((fromL A + k) % 32) + n)))
noncomputable def blockG (A : Gs) (n : Nat) : Int32 × Gs := match lst (freeB A) 4 0 with
  | none => (-1, A)
  | some b => (nI (32 * b), uI (uI A 17 16 (nI b)) 17 17 (nI (32 * b + n)))
noncomputable def placeG (A : Gs) (n : Nat) : Int32 × Gs :=
  haveI := Classical.propDecidable (A 17 13 ≠ -1 ∧ num (A 17 15) + n ≤ 4 * num (A 17 14)); haveI := Classical.propDecidable (A 17 16 ≠ -1 ∧ num (A 17 17) + n ≤ 32 * num (A 17 16) + 32)
  if A 17 13 ≠ -1 ∧ num (A 17 15) + n ≤ 4 * num (A 17 14) then (A 17 15, uI A 17 15 (nI (num (A 17 15) + n)))
  else if n ≤ 4 then lineG A n
  else if A 17 16 ≠ -1 ∧ num (A 17 17) + n ≤ 32 * num (A 17 16) + 32 then (A 17 17, uI A 17 17 (nI (num (A 17 17) + n)))
  else blockG A n
/-- the reference's own holes are as they should be -/
def placeI (A : Gs) : Prop := (∀ l, l < 32 → zb (A 29 l)) ∧ (A 17 13 = -1 ∨ ∃ f e c : Nat, f < e ∧ e ≤ 32 ∧ 4 * f ≤ c ∧ c ≤ 4 * e ∧ A 17 13 = nI f ∧ A 17 14 = nI e ∧ A 17 15 = nI c) ∧
  (A 17 16 = -1 ∨ ∃ b c : Nat, b < 4 ∧ 32 * b ≤ c ∧ c ≤ 32 * b + 32 ∧ A 17 16 = nI b ∧ A 17 17 = nI c)
theorem PR.I {μ : Mem} {A : Gs} (h : PR μ A) : placeI A := by
  obtain ⟨-, h2, -, h4, h5⟩ := h
  refine ⟨fun l hl => (h2 l hl).2, ?_, ?_⟩
  · rcases h4 with h | ⟨f, e, c, q1, q2, q3, q4, a1, a2, a3, -⟩
    · exact Or.inl h.1
    · exact Or.inr ⟨f, e, c, q1, q2, q3, q4, a1, a2, a3⟩
  · rcases h5 with h | ⟨b, c, q1, q2, q3, a1, a3, -⟩
    · exact Or.inl h.1
    · exact Or.inr ⟨b, c, q1, q2, q3, a1, a3⟩
theorem m1_neg : (-1 : Int32) < 0 := by decide
/-- the model's search for a line -/
theorem m_lines_loop {fr : Nat} (hf : fr ≤ 32) {k : Int32 → Mem → Prop} {μ : Mem} (hz : ∀ l, l < 32 → zb (mI μ 29 l)) : ∀ (d c : Nat), c + d = 32 →
    (∀ j, lst (fun k => freeP (gh μ) ((fr + k) % 32)) d c = some j → k (nI j) μ) → (lst (fun k => freeP (gh μ) ((fr + k) % 32)) d c = none → k (nI 32) μ) → wM_placeInLines_18 (nI fr) k (d + 1) (nI c) μ := by
  intro d
  induction d with
  | zero =>
    intro c hc h1 h0
    have : c = 32 := by omega
    subst this
    unfold wM_placeInLines_18
    exact ⟨fun _ => h0 rfl, fun h => absurd (show (32 : Int32) ≤ nI 32 by decide) h⟩
  | succ d ih =>
    intro c hc h1 h0
    unfold wM_placeInLines_18
    have em : (nI fr + nI c) - (nI fr + nI c) / 32 * 32 = nI ((fr + c) % 32) := by
      rw [nI_add]
      exact nI_rem (b := 32) (by omega) (by omega)
    rw [em, nI_1]
    refine ⟨fun h => ?_, fun _ => ?_⟩
    · exfalso
      rw [li_32, nI_leI (by omega) (by omega)] at h
      omega
    · have hm : (fr + c) % 32 < 32 := Nat.mod_lt _ (by decide)
      refine m_isFree hm (hz _ hm) (fun hp => ⟨fun h => absurd h (by decide), fun _ => h1 c (lst_hit hp)⟩) (fun hp => ⟨fun _ => ih (c + 1) (by omega) ?_ ?_, fun h => absurd rfl h⟩)
      · intro j hj
        exact h1 j ((lst_miss (p := fun k => freeP (gh μ) ((fr + k) % 32)) hp).trans hj)
      · intro hj
        exact h0 ((lst_miss (p := fun k => freeP (gh μ) ((fr + k) % 32)) hp).trans hj)
theorem m_run_loop {l b : Nat} (hb : b = (l / 8 + 1) * 8) (hl : l < 32) {k : Int32 → Mem → Prop} {μ : Mem} (hz : ∀ l, l < 32 → zb (mI μ 29 l)) : ∀ (d c : Nat), c + d = b + 1 → l < c → c ≤ b →
    k (nI (runE (gh μ) b d c)) μ → wM_placeInLines_65 (nI l) k d (nI c) μ := by
  intro d
  induction d with
  | zero => intro c hc hlc hcb _; omega
  | succ d ih =>
    intro c hc hlc hcb0 h
    unfold wM_placeInLines_65
    have e1 : nI c / 8 = nI (c / 8) := nI_div (b := 8) (by omega) (by omega)
    have e2 : nI l / 8 = nI (l / 8) := nI_div (b := 8) (by omega) (by omega)
    rw [e1, e2, nI_eq (by omega) (by omega), nI_1]
    refine ⟨fun hc2 => ?_, fun hc2 => ?_⟩
    · have hcb : c < b := by omega
      refine m_isFree (by omega) (hz _ (by omega)) (fun hp => ⟨fun h => absurd h (by decide), fun _ => ih (c + 1) (by omega) (by omega) (by omega) ?_⟩) (fun hp => ⟨fun _ => ?_, fun h => absurd rfl h⟩)
      · rw [runE_on hcb hp] at h; exact h
      · rw [runE_stop hcb hp] at h; exact h
    · have hcb : ¬ c < b := by omega
      rw [runE_out hcb] at h
      exact h
theorem runE_fuel {A : Gs} {b : Nat} : ∀ (d e c : Nat), b ≤ c + d → b ≤ c + e → runE A b d c = runE A b e c := by
  intro d
  induction d with
  | zero =>
    intro e c h1 h2
    cases e with
    | zero => rfl
    | succ e => rw [runE_out (by omega)]; rfl
  | succ d ih =>
    intro e c h1 h2
    by_cases hc : c < b
    · cases e with
      | zero => omega
      | succ e =>
        by_cases hp : freeP A c
        · rw [runE_on hc hp, runE_on hc hp]
          exact ih e (c + 1) (by omega) (by omega)
        · rw [runE_stop hc hp, runE_stop hc hp]
    · rw [runE_out hc]
      cases e with
      | zero => rfl
      | succ e => rw [runE_out hc]
theorem m_lines {n : Nat} (hn : n ≤ 12) {post : Int32 → Mem → Prop} {μ : Mem} (hI : placeI (gh μ)) (h : ∀ μ1, gh μ1 = (lineG (gh μ) n).2 → (∃ a b c : Int32, μ1 = sI (sI (sI μ 17 13 a) 17 14 b) 17 15 c) ∨ μ1 = μ → post (lineG (gh μ) n).1 μ1) : wM_placeInLines (nI n) post μ := by
  have hz : ∀ l, l < 32 → zb (mI μ 29 l) := hI.1
  have main : ∀ fr, fr ≤ 32 → fr = fromL (gh μ) → wM_placeInLines_15 (nI n) (nI fr) post μ := by
    intro fr hfr hfe
    unfold wM_placeInLines_15
    refine ⟨33, ?_⟩
    refine m_lines_loop hfr hz 32 0 (by omega) (fun j hj => ?_) (fun hj => ?_)
    · obtain ⟨hp, -, hj2⟩ := lst_some hj
      have hm : (fr + j) % 32 < 32 := Nat.mod_lt _ (by decide)
      unfold wM_placeInLines_43
      have em : (nI fr + nI j) - (nI fr + nI j) / 32 * 32 = nI ((fr + j) % 32) := by
        rw [nI_add]
        exact nI_rem (b := 32) (by omega) (by omega)
      rw [em, nI_1]
      refine ⟨fun q => ?_, fun _ => ?_⟩
      · exfalso
        rw [li_32, nI_eq (by omega) (by omega)] at q
        omega
      · generalize hl : (fr + j) % 32 = l at hm hp ⊢
        refine ⟨(l / 8 + 1) * 8 + 1 - (l + 1), m_run_loop rfl hm hz _ (l + 1) (by omega) (by omega) (by omega) ?_⟩
        unfold wM_placeInLines_93
        have e4 : 4 * nI l = nI (4 * l) := nI_mul 4 l
        intro μ9 e9 μ10 e10 μ11 e11
        subst e9; subst e10; subst e11
        rw [e4, nI_add]
        have hG : lineG (gh μ) n = (nI (4 * l), uI (uI (uI (gh μ) 17 13 (nI l)) 17 14 (nI (runE (gh μ) ((l / 8 + 1) * 8) 8 (l + 1)))) 17 15 (nI (4 * l + n))) := by
          unfold lineG
          rw [← hfe, hj]
          simp only [hl]
        have h2 := h (sI (sI (sI μ 17 13 (nI l)) 17 14 (nI (runE (gh μ) ((l / 8 + 1) * 8) ((l / 8 + 1) * 8 + 1 - (l + 1)) (l + 1)))) 17 15 (nI (4 * l + n))) (by
          rw [hG, gh_sI (by decide), gh_sI (by decide), gh_sI (by decide), runE_fuel ((l / 8 + 1) * 8 + 1 - (l + 1)) 8 (l + 1) (by omega) (by omega)]) (Or.inl ⟨_, _, _, rfl⟩)
        rw [hG] at h2
        exact h2
    · unfold wM_placeInLines_43
      refine ⟨fun _ => ?_, fun q => absurd rfl q⟩
      have hG : lineG (gh μ) n = (-1, gh μ) := by
        unfold lineG
        rw [← hfe, hj]
      have h2 := h μ (by rw [hG]) (Or.inr rfl)
      rw [hG] at h2
      exact h2
  unfold wM_placeInLines
  rcases hI.2.1 with h1 | ⟨f, e, c, q1, q2, q3, q4, a1, a2, a3⟩
  · have h1' : mI μ 17 13 = -1 := h1
    refine ⟨fun q => ?_, fun _ => main 0 (by omega) ?_⟩
    · rw [h1'] at q; exact absurd q (by decide)
    · unfold fromL; rw [if_pos h1]
  · have a1' : mI μ 17 13 = nI f := a1
    have a2' : mI μ 17 14 = nI e := a2
    refine ⟨fun _ => ?_, fun q => ?_⟩
    · rw [a2']
      refine main e q2 ?_
      unfold fromL
      rw [if_neg (by rw [a1]; exact nI_m1 (by omega)), a2]
      exact (nI_clamp (by omega)).symm
    · rw [a1'] at q
      exact absurd (nI_pos' (by omega)) q
theorem m_fb_loop {b : Nat} (hb : b < 4) {k : Int32 → Int32 → Mem → Prop} {μ : Mem} (hz : ∀ l, l < 32 → zb (mI μ 29 l)) : ∀ (d c : Nat) (v : Int32), c + d = 8 * b + 8 → 8 * b ≤ c → zb v →
    ((v = 1 ∧ ∀ l, c ≤ l → l < 8 * b + 8 → freeP (gh μ) l) → ∀ l3, k 1 l3 μ) → (¬ (v = 1 ∧ ∀ l, c ≤ l → l < 8 * b + 8 → freeP (gh μ) l) → ∀ l3, k 0 l3 μ) → wM_isFreeBlock_7 (nI b) k (d + 1) v (nI c) μ := by
  intro d
  have e8 : 8 * nI b + 8 = nI (8 * b + 8) := by rw [← nI_add, ← nI_mul]; rfl
  induction d with
  | zero =>
    intro c v hc hbc hv h1 h0
    unfold wM_isFreeBlock_7
    rw [e8, nI_leI (by omega) (by omega)]
    refine ⟨fun _ => ?_, fun h => absurd (by omega) h⟩
    rcases zb_cases hv with ⟨rfl, -⟩ | ⟨rfl, -⟩
    · exact h0 (fun q => absurd q.1 (by decide)) _
    · exact h1 ⟨rfl, fun l _ _ => by omega⟩ _
  | succ d ih =>
    intro c v hc hbc hv h1 h0
    unfold wM_isFreeBlock_7
    rw [e8, nI_leI (by omega) (by omega), nI_1]
    refine ⟨fun h => absurd h (by omega), fun _ => ⟨fun v0 => ?_, fun v0 => ?_⟩⟩
    · refine ih (c + 1) 0 (by omega) (by omega) (Or.inl rfl) (fun q => absurd q.1 (by decide)) (fun _ => h0 (fun q => ?_))
      rw [v0] at q
      exact absurd q.1 (by decide)
    · have v1 : v = 1 := by
        rcases zb_cases hv with ⟨e, -⟩ | ⟨e, -⟩
        · exact absurd e v0
        · exact e
      refine m_isFree (by omega) (hz _ (by omega)) (fun hp => ⟨fun h => absurd h (by decide), fun _ => ?_⟩) (fun hp => ⟨fun _ => ?_, fun h => absurd rfl h⟩)
      · refine ih (c + 1) 1 (by omega) (by omega) (Or.inr rfl) (fun q => h1 ⟨v1, fun l q1 q2 => ?_⟩) (fun q => h0 (fun z => q ⟨rfl, fun l q1 q2 => z.2 l (by omega) q2⟩))
        by_cases e : l = c
        · subst e; exact hp
        · exact q.2 l (by omega) q2
      · exact ih (c + 1) 0 (by omega) (by omega) (Or.inl rfl) (fun q => absurd q.1 (by decide)) (fun _ => h0 (fun z => hp (z.2 c (Nat.le_refl _) (by omega))))
theorem m_isFreeBlock {b : Nat} (hb : b < 4) {post : Int32 → Mem → Prop} {μ : Mem} (hz : ∀ l, l < 32 → zb (mI μ 29 l)) (h1 : freeB (gh μ) b → post 1 μ) (h0 : ¬ freeB (gh μ) b → post 0 μ) : wM_isFreeBlock (nI b) post μ := by
  unfold wM_isFreeBlock
  refine ⟨9, ?_⟩
  have e8 : 8 * nI b = nI (8 * b) := nI_mul 8 b
  rw [e8]
  exact m_fb_loop hb hz 8 (8 * b) 1 (by omega) (by omega) (Or.inr rfl) (fun q _ => ⟨Or.inr rfl, h1 q.2⟩) (fun q _ => ⟨Or.inl rfl, h0 (fun z => q ⟨rfl, z⟩)⟩)
theorem m_block_loop {k : Int32 → Mem → Prop} {μ : Mem} (hz : ∀ l, l < 32 → zb (mI μ 29 l)) : ∀ (d c : Nat), c + d = 4 → (∀ j, lst (freeB (gh μ)) d c = some j → k (nI j) μ) → (lst (freeB (gh μ)) d c = none → k (nI 4) μ) → wM_placeInBlock_45 k (d + 1) (nI c) μ := by
  intro d
  induction d with
  | zero =>
    intro c hc h1 h0
    have : c = 4 := by omega
    subst this
    unfold wM_placeInBlock_45
    exact ⟨fun _ => h0 rfl, fun h => absurd (show (4 : Int32) ≤ nI 4 by decide) h⟩
  | succ d ih =>
    intro c hc h1 h0
    unfold wM_placeInBlock_45
    rw [nI_1]
    refine ⟨fun h => ?_, fun _ => ?_⟩
    · exfalso
      rw [li_4, nI_leI (by omega) (by omega)] at h
      omega
    · refine m_isFreeBlock (by omega) hz (fun hp => ⟨fun h => absurd h (by decide), fun _ => h1 c (lst_hit hp)⟩) (fun hp => ⟨fun _ => ih (c + 1) (by omega) ?_ ?_, fun h => absurd rfl h⟩)
      · intro j hj
        exact h1 j ((lst_miss hp).trans hj)
      · intro hj
        exact h0 ((lst_miss hp).trans hj)
/-- only the numbers of the reference's holes have changed -/
def plF (μ μ1 : Mem) : Prop := μ1 = μ ∨ (∃ a b c : Int32, μ1 = sI (sI (sI μ 17 13 a) 17 14 b) 17 15 c) ∨ (∃ a b : Int32, μ1 = sI (sI μ 17 16 a) 17 17 b) ∨ (∃ a, μ1 = sI μ 17 15 a) ∨ ∃ a, μ1 = sI μ 17 17 a
theorem m_place {n : Nat} (hn1 : 1 ≤ n) (hn : n ≤ 12) {post : Int32 → Mem → Prop} {μ : Mem} (hI : placeI (gh μ)) (h : ∀ μ1, gh μ1 = (placeG (gh μ) n).2 → plF μ μ1 → post (placeG (gh μ) n).1 μ1) : wM_place (nI n) post μ := by
  have hz : ∀ l, l < 32 → zb (mI μ 29 l) := hI.1
  -- behind the hole
  have tail : ¬ (gh μ 17 13 ≠ -1 ∧ num (gh μ 17 15) + n ≤ 4 * num (gh μ 17 14)) → wM_place_39 (nI n) post μ := by
    intro hno
    unfold wM_place_39
    rw [li_4, nI_ltI (by omega) (by omega)]
    refine ⟨fun h4 => ?_, fun h4 => ?_⟩
    · have tail2 : ¬ (gh μ 17 16 ≠ -1 ∧ num (gh μ 17 17) + n ≤ 32 * num (gh μ 17 16) + 32) → wM_placeInBlock_43 (nI n) (fun r2 μ1 => post r2 μ1) μ := by
        intro hno2
        have hp : placeG (gh μ) n = blockG (gh μ) n := by
          unfold placeG
          rw [if_neg hno, if_neg (by omega), if_neg hno2]
        rw [hp] at h
        unfold wM_placeInBlock_43
        refine ⟨5, m_block_loop hz 4 0 (by omega) (fun j hj => ?_) (fun hj => ?_)⟩
        · obtain ⟨-, -, hj2⟩ := lst_some hj
          have e32 : 32 * nI j = nI (32 * j) := nI_mul 32 j
          have hG : blockG (gh μ) n = (nI (32 * j), uI (uI (gh μ) 17 16 (nI j)) 17 17 (nI (32 * j + n))) := by
            unfold blockG
            rw [hj]
          unfold wM_placeInBlock_64
          rw [e32, nI_add]
          refine ⟨fun q => ?_, fun _ => ?_⟩
          · exfalso
            rw [li_4, nI_eq (by omega) (by omega)] at q
            omega
          · intro μ5 e5 μ6 e6
            subst e5; subst e6
            have h2 := h (sI (sI μ 17 16 (nI j)) 17 17 (nI (32 * j + n))) (by rw [hG, gh_sI (by decide), gh_sI (by decide)]) (Or.inr (Or.inr (Or.inl ⟨_, _, rfl⟩)))
            rw [hG] at h2
            exact h2
        · have hG : blockG (gh μ) n = (-1, gh μ) := by
            unfold blockG
            rw [hj]
          unfold wM_placeInBlock_64
          refine ⟨fun _ => ?_, fun q => absurd rfl q⟩
          have h2 := h μ (by rw [hG]) (Or.inl rfl)
          rw [hG] at h2
          exact h2
      unfold wM_placeInBlock
      rcases hI.2.2 with h1 | ⟨b, c, q1, q2, q3, a1, a3⟩
      · have h1' : mI μ 17 16 = -1 := h1
        refine ⟨fun _ => tail2 (fun q => q.1 h1), fun q => ?_⟩
        rw [h1'] at q
        exact absurd m1_neg q
      · have a1' : mI μ 17 16 = nI b := a1
        have a3' : mI μ 17 17 = nI c := a3
        have e32 : 32 * nI b + 32 = nI (32 * b + 32) := by rw [← nI_add, ← nI_mul]; rfl
        have n1 : num (gh μ 17 16) = b := by rw [a1]; exact nI_clamp (by omega)
        have n3 : num (gh μ 17 17) = c := by rw [a3]; exact nI_clamp (by omega)
        rw [a1', a3', e32, nI_add, nI_ltI (by omega) (by omega)]
        refine ⟨fun q => absurd q (nI_pos (by omega)), fun _ => ⟨fun q => tail2 ?_, fun q => ?_⟩⟩
        · rintro ⟨-, z⟩
          rw [n1, n3] at z
          omega
        · intro μ8 e8
          subst e8
          have hyes : gh μ 17 16 ≠ -1 ∧ num (gh μ 17 17) + n ≤ 32 * num (gh μ 17 16) + 32 := ⟨by rw [a1]; exact nI_m1 (by omega), by rw [n1, n3]; omega⟩
          have hp : placeG (gh μ) n = (gh μ 17 17, uI (gh μ) 17 17 (nI (num (gh μ 17 17) + n))) := by
            unfold placeG
            rw [if_neg hno, if_neg (by omega), if_pos hyes]
          have h2 := h (sI μ 17 17 (nI (c + n))) (by rw [hp, gh_sI (by decide), n3]) (Or.inr (Or.inr (Or.inr (Or.inr ⟨_, rfl⟩))))
          rw [hp, a3] at h2
          rw [mI_sI_self, nI_sub (by omega), Nat.add_sub_cancel]
          exact h2
    · have hp : placeG (gh μ) n = lineG (gh μ) n := by
        unfold placeG
        rw [if_neg hno, if_pos (by omega)]
      rw [hp] at h
      refine m_lines hn hI (fun μ1 e1 e2 => h μ1 e1 ?_)
      rcases e2 with q | q
      · exact Or.inr (Or.inl q)
      · exact Or.inl q
  unfold wM_place
  rcases hI.2.1 with h1 | ⟨f, e, c, q1, q2, q3, q4, a1, a2, a3⟩
  · have h1' : mI μ 17 13 = -1 := h1
    refine ⟨fun _ => tail (fun q => q.1 h1), fun q => ?_⟩
    rw [h1'] at q
    exact absurd m1_neg q
  · have a1' : mI μ 17 13 = nI f := a1
    have a2' : mI μ 17 14 = nI e := a2
    have a3' : mI μ 17 15 = nI c := a3
    have e4 : 4 * nI e = nI (4 * e) := nI_mul 4 e
    have n2 : num (gh μ 17 14) = e := by rw [a2]; exact nI_clamp (by omega)
    have n3 : num (gh μ 17 15) = c := by rw [a3]; exact nI_clamp (by omega)
    rw [a1', a2', a3', e4, nI_add, nI_ltI (by omega) (by omega)]
    refine ⟨fun q => absurd q (nI_pos (by omega)), fun _ => ⟨fun q => tail ?_, fun q => ?_⟩⟩
    · rintro ⟨-, z⟩
      rw [n2, n3] at z
      omega
    · intro μ5 e5
      subst e5
      have hyes : gh μ 17 13 ≠ -1 ∧ num (gh μ 17 15) + n ≤ 4 * num (gh μ 17 14) := ⟨by rw [a1]; exact nI_m1 (by omega), by rw [n2, n3]; omega⟩
      have hp : placeG (gh μ) n = (gh μ 17 15, uI (gh μ) 17 15 (nI (num (gh μ 17 15) + n))) := by
        unfold placeG
        rw [if_pos hyes]
      have h2 := h (sI μ 17 15 (nI (c + n))) (by rw [hp, gh_sI (by decide), n3]) (Or.inr (Or.inr (Or.inr (Or.inl ⟨_, rfl⟩))))
      rw [hp, a3] at h2
      rw [mI_sI_self, nI_sub (by omega), Nat.add_sub_cancel]
      exact h2
