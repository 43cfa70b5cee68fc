/-! The block with the fewest used lines -/
def few (u : Nat → Nat) : Option Nat → Nat
  | none => 4
  | some b => u b
def cB (u : Nat → Nat) : Nat → Option Nat
  | 0 => none
  | k + 1 => if 0 < u k ∧ u k < few u (cB u k) then some k else cB u k
def mB (u : Nat → Nat) : Nat → Option Nat
  | 0 => none
  | k + 1 => if 0 < u (3 - k) ∧ u (3 - k) < 4 ∧ (mB u k = none ∨ u (3 - k) ≤ few u (mB u k)) then some (3 - k) else mB u k
/-- the least number with the least count -/
def isB (u : Nat → Nat) (P : Nat → Prop) (o : Option Nat) : Prop := match o with
  | none => ∀ b, P b → u b = 0 ∨ 4 ≤ u b
  | some b => P b ∧ 0 < u b ∧ u b < 4 ∧ ∀ c, P c → 0 < u c → u c < 4 → u b ≤ u c ∧ (u c = u b → b ≤ c)
theorem cB_is (u : Nat → Nat) (k : Nat) : isB u (fun b => b < k) (cB u k) := by
  induction k with
  | zero => intro b hb; omega
  | succ k ih =>
    unfold cB
    cases hc : cB u k with
    | none =>
      rw [hc] at ih
      by_cases w : 0 < u k ∧ u k < few u none
      · rw [if_pos w]
        have w2 : u k < 4 := w.2
        refine ⟨by omega, w.1, w2, fun c hcc h1 h2 => ?_⟩
        by_cases e : c = k
        · subst e; omega
        · have := ih c (by omega); omega
      · rw [if_neg w]
        intro b hb
        have w2 : ¬ (0 < u k ∧ u k < 4) := w
        by_cases e : b = k
        · subst e; omega
        · exact ih b (by omega)
    | some m =>
      rw [hc] at ih
      obtain ⟨i1, i2, i3, i4⟩ := ih
      by_cases w : 0 < u k ∧ u k < few u (some m)
      · rw [if_pos w]
        have w2 : u k < u m := w.2
        refine ⟨by omega, w.1, by omega, fun c hcc h1 h2 => ?_⟩
        by_cases e : c = k
        · subst e; omega
        · have := i4 c (by omega) h1 h2; omega
      · rw [if_neg w]
        have w2 : ¬ (0 < u k ∧ u k < u m) := w
        refine ⟨by omega, i2, i3, fun c hcc h1 h2 => ?_⟩
        by_cases e : c = k
        · subst e; omega
        · exact i4 c (by omega) h1 h2
theorem mB_is (u : Nat → Nat) (k : Nat) (hk : k ≤ 4) : isB u (fun b => 4 - k ≤ b ∧ b < 4) (mB u k) := by
  induction k with
  | zero => intro b hb; omega
  | succ k ih =>
    have ih := ih (by omega)
    unfold mB
    cases hc : mB u k with
    | none =>
      rw [hc] at ih
      by_cases w : 0 < u (3 - k) ∧ u (3 - k) < 4 ∧ ((none : Option Nat) = none ∨ u (3 - k) ≤ few u none)
      · rw [if_pos w]
        refine ⟨by omega, w.1, w.2.1, fun c hcc h1 h2 => ?_⟩
        by_cases e : c = 3 - k
        · subst e; omega
        · have := ih c (by omega); omega
      · rw [if_neg w]
        intro b hb
        have w2 : ¬ (0 < u (3 - k) ∧ u (3 - k) < 4) := fun z => w ⟨z.1, z.2, Or.inl rfl⟩
        by_cases e : b = 3 - k
        · subst e; omega
        · exact ih b (by omega)
    | some m =>
      rw [hc] at ih
      obtain ⟨i1, i2, i3, i4⟩ := ih
      by_cases w : 0 < u (3 - k) ∧ u (3 - k) < 4 ∧ ((some m : Option Nat) = none ∨ u (3 - k) ≤ few u (some m))
      · rw [if_pos w]
        have w2 : u (3 - k) ≤ u m := by
          rcases w.2.2 with z | z
          · cases z
          · exact z
        refine ⟨by omega, w.1, by omega, fun c hcc h1 h2 => ?_⟩
        by_cases e : c = 3 - k
        · subst e; omega
        · have := i4 c (by omega) h1 h2; omega
      · rw [if_neg w]
        have w2 : ¬ (0 < u (3 - k) ∧ u (3 - k) < 4 ∧ u (3 - k) ≤ u m) := fun z => w ⟨z.1, z.2.1, Or.inr z.2.2⟩
        refine ⟨by omega, i2, i3, fun c hcc h1 h2 => ?_⟩
        by_cases e : c = 3 - k
        · subst e; omega
        · exact i4 c (by omega) h1 h2
theorem best_eq (u : Nat → Nat) : cB u 4 = mB u 4 := by
  have h1 := cB_is u 4
  have h2 := mB_is u 4 (Nat.le_refl _)
  cases hc : cB u 4 with
  | none =>
    rw [hc] at h1
    cases hm : mB u 4 with
    | none => rfl
    | some m =>
      rw [hm] at h2
      have := h1 m h2.1.2
      have := h2.2.1
      have := h2.2.2.1
      omega
  | some b =>
    rw [hc] at h1
    cases hm : mB u 4 with
    | none =>
      rw [hm] at h2
      have := h2 b ⟨by omega, h1.1⟩
      have := h1.2.1
      have := h1.2.2.1
      omega
    | some m =>
      rw [hm] at h2
      obtain ⟨a1, a2, a3, a4⟩ := h1
      obtain ⟨b1, b2, b3, b4⟩ := h2
      have q1 := a4 m b1.2 b2 b3
      have q2 := b4 b ⟨by omega, a1⟩ a2 a3
      have : b = m := by omega
      rw [this]
