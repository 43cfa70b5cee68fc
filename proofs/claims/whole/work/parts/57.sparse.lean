/-! The sparsest block: both sides -/
noncomputable def uu (s : St) (b : Nat) : Nat := uB s b 8
theorem few_le (s : St) (o : Option Nat) : few (uu s) o ≤ 8 := by
  cases o with
  | none => show 4 ≤ 8; omega
  | some b => exact uB_le s b 8
theorem c_sparse_loop {s : St} {μ : Mem} (h : PR μ (pg s)) {K : Int32 → Int32 → Int32 → Mem → Prop} : ∀ (e k : Nat), k + e = 4 → (∀ v w, K (eo (cB (uu s) 4)) v w μ) → wP_sparsestBlock_6 K (e + 1) (eo (cB (uu s) k)) (nI (few (uu s) (cB (uu s) k))) (nI k) μ := by
  intro e
  induction e with
  | zero =>
    intro k hk hp
    have : k = 4 := by omega
    subst this
    unfold wP_sparsestBlock_6
    rw [li_4, nI_leI (by omega) (by omega)]
    exact ⟨fun _ => hp _ _, fun q => absurd (Nat.le_refl _) q⟩
  | succ e ih =>
    intro k hk hp
    have i := ih (k + 1) (by omega) hp
    have f1 := few_le s (cB (uu s) k)
    have f2 : uu s k ≤ 8 := uB_le s k 8
    have ec : cB (uu s) (k + 1) = if 0 < uu s k ∧ uu s k < few (uu s) (cB (uu s) k) then some k else cB (uu s) k := rfl
    unfold wP_sparsestBlock_6
    rw [li_4, nI_leI (by omega) (by omega), nI_1]
    refine ⟨fun q => absurd q (by omega), fun _ => c_usedLines (s := s) (by omega) h ?_⟩
    have eu : nI (uB s k 8) = nI (uu s k) := rfl
    rw [eu, li_0, nI_leI (by omega) (by omega), nI_leI (by omega) (by omega)]
    refine ⟨fun q => ?_, fun q => ⟨fun w => ?_, fun w => ?_⟩⟩
    · rw [ec, if_neg (by omega)] at i; exact i
    · rw [ec, if_neg (by omega)] at i; exact i
    · rw [ec, if_pos ⟨by omega, by omega⟩] at i; exact i
theorem c_sparse {s : St} {μ : Mem} (h : PR μ (pg s)) {post : Int32 → Mem → Prop} (hp : post (eo (cB (uu s) 4)) μ) : wP_sparsestBlock post μ := by
  unfold wP_sparsestBlock
  exact ⟨5, c_sparse_loop h 4 0 (by omega) (fun _ _ => hp)⟩
theorem dn {k : Nat} (h : k < 3) : nI (3 - k) + (-1) = nI (3 - (k + 1)) := by
  have : k = 0 ∨ k = 1 ∨ k = 2 := by omega
  rcases this with rfl | rfl | rfl <;> decide
theorem m_sparse_loop {s : St} {μ : Mem} (h : MR μ s) (hI : placeI (pg s)) {K : Int32 → Int32 → Mem → Prop} : ∀ (e k : Nat), k + e = 3 → (∀ v, K (eo (mB (uu s) 4)) v μ) → wM_clearBlock_4 K (e + 2) (eo (mB (uu s) k)) (nI (3 - k)) μ := by
  have one : ∀ (k : Nat) (L : Int32 → Mem → Prop), k < 4 → L (eo (mB (uu s) (k + 1))) μ → wM_usedLines (nI (3 - k)) (fun r2 μ1 => ((r2 ≤ 0 → L (eo (mB (uu s) k)) μ1) ∧ (¬ r2 ≤ 0 → ((4 ≤ r2 → L (eo (mB (uu s) k)) μ1) ∧ (¬ 4 ≤ r2 → ((eo (mB (uu s) k) < 0 → L (nI (3 - k)) μ1) ∧ (¬ eo (mB (uu s) k) < 0 → wM_usedLines (eo (mB (uu s) k)) (fun r4 μ3 => ((r4 < r2 → L (eo (mB (uu s) k)) μ3) ∧ (¬ r4 < r2 → L (nI (3 - k)) μ3))) μ1))))))) μ := by
    intro k L hk hL
    have f2 : uu s (3 - k) ≤ 8 := uB_le s _ 8
    have ec : mB (uu s) (k + 1) = if 0 < uu s (3 - k) ∧ uu s (3 - k) < 4 ∧ (mB (uu s) k = none ∨ uu s (3 - k) ≤ few (uu s) (mB (uu s) k)) then some (3 - k) else mB (uu s) k := rfl
    have eu : nI (uB s (3 - k) 8) = nI (uu s (3 - k)) := rfl
    have e3 : eo (some (3 - k)) = nI (3 - k) := rfl
    refine m_usedLines (by omega) hI h ?_
    rw [eu, li_0, li_4, nI_leI (by omega) (by omega), nI_leI (by omega) (by omega)]
    refine ⟨fun q => ?_, fun q => ⟨fun w => ?_, fun w => ?_⟩⟩
    · rw [ec, if_neg (fun z => by have := z.1; omega)] at hL; exact hL
    · rw [ec, if_neg (fun z => by have := z.2.1; omega)] at hL; exact hL
    · cases hm : mB (uu s) k with
      | none =>
        rw [ec, if_pos ⟨by omega, by omega, Or.inl hm⟩] at hL
        exact ⟨fun _ => hL, fun z => absurd m1_neg z⟩
      | some m =>
        have hmi := mB_is (uu s) k (by omega)
        rw [hm] at hmi
        have hm4 : m < 4 := hmi.1.2
        have em : eo (some m) = nI m := rfl
        have f3 : uu s m ≤ 8 := uB_le s _ 8
        have eum : nI (uB s m 8) = nI (uu s m) := rfl
        rw [em]
        refine ⟨fun z => absurd z (nI_pos (by omega)), fun _ => m_usedLines hm4 hI h ?_⟩
        rw [eum, nI_ltI (by omega) (by omega)]
        rw [ec, hm] at hL
        refine ⟨fun z => ?_, fun z => ?_⟩
        · rw [if_neg] at hL
          · exact hL
          · rintro ⟨-, -, t | t⟩
            · cases t
            · have t2 : uu s (3 - k) ≤ uu s m := t
              omega
        · rw [if_pos ⟨by omega, by omega, Or.inr (show uu s (3 - k) ≤ uu s m by omega)⟩] at hL
          exact hL
  intro e
  induction e with
  | zero =>
    intro k hk hp
    have : k = 3 := by omega
    subst this
    unfold wM_clearBlock_4
    refine ⟨fun q => absurd q (nI_pos (by omega)), fun _ => ?_⟩
    have e0 : nI (3 - 3) + (-1) = -1 := by decide
    rw [e0]
    refine one 3 (fun b ν => wM_clearBlock_4 K 1 b (-1) ν) (by omega) ?_
    unfold wM_clearBlock_4
    exact ⟨fun _ => hp _, fun q => absurd m1_neg q⟩
  | succ e ih =>
    intro k hk hp
    unfold wM_clearBlock_4
    refine ⟨fun q => absurd q (nI_pos (by omega)), fun _ => ?_⟩
    rw [dn (by omega)]
    exact one k (fun b ν => wM_clearBlock_4 K (e + 2) b (nI (3 - (k + 1))) ν) (by omega) (ih (k + 1) (by omega) hp)
