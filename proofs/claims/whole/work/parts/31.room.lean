/-! Room: the cells still open lie free, and a place found is free -/
def inRoom (s : St) (j : Nat) : Prop := (hf s ≠ -1 ∧ num (hc s) ≤ j ∧ j < 4 * num (he s)) ∨ (ov s ≠ -1 ∧ num (oc s) ≤ j ∧ j < 32 * num (ov s) + 32)
def disj (s : St) : Prop := hf s ≠ -1 → ov s ≠ -1 → ∀ l, num (hf s) ≤ l → l < num (he s) → l / 8 ≠ num (ov s)
def roomI (s : St) : Prop := placeI (pg s) ∧ disj s ∧ ∀ j, inRoom s j → cel s j = none
theorem num_nI {a : Nat} (h : a < 2 ^ 31) : num (nI a) = a := nI_clamp h
theorem runE_free {A : Gs} {b d k : Nat} : ∀ l, k ≤ l → l < runE A b d k → freeP A l := by
  induction d generalizing k with
  | zero => intro l h1 h2; exact absurd (show l < k from h2) (by omega)
  | succ d ih =>
    intro l h1 h2
    by_cases hk : k < b
    · by_cases hp : freeP A k
      · rw [runE_on hk hp] at h2
        by_cases e : l = k
        · subst e; exact hp
        · exact ih l (by omega) h2
      · rw [runE_stop hk hp] at h2; omega
    · rw [runE_out hk] at h2; omega
theorem free_cells {s : St} (hs : small s) {l : Nat} (h : freeP (pg s) l) : ∀ j, 4 * l ≤ j → j < 4 * l + 4 → cel s j = none := by
  intro j h1 h2
  cases hc : cel s j with
  | none => rfl
  | some x =>
    exfalso
    refine h.1 (Or.inr (cnt_ex.mpr ⟨j, h1, h2, ?_⟩))
    have e : pg s 18 j = eo (cel s j) := rfl
    rw [e, hc]
    exact eo_pos (hs j x hc)
theorem free_hole {s : St} {l : Nat} (hl : l < 2 ^ 31) (h : freeP (pg s) l) (hI : placeI (pg s)) (hh : hf s ≠ -1) : ¬ (num (hf s) ≤ l ∧ l < num (he s)) := by
  rintro ⟨h1, h2⟩
  rcases hI.2.1 with q | ⟨f, e, c, q1, q2, q3, q4, a1, a2, a3⟩
  · exact hh q
  · have a1' : hf s = nI f := a1
    have a2' : he s = nI e := a2
    rw [a1', num_nI (by omega)] at h1
    rw [a2', num_nI (by omega)] at h2
    refine h.2.1 (Or.inl ?_)
    rw [a1, a2, nI_ltI (by omega) (by omega), nI_ltI (by omega) (by omega)]
    exact ⟨nI_pos' (by omega), by omega, h2⟩
theorem free_ovf {s : St} {l : Nat} (h : freeP (pg s) l) (hI : placeI (pg s)) (hh : ov s ≠ -1) : l / 8 ≠ num (ov s) := by
  intro h1
  rcases hI.2.2 with q | ⟨b, c, q1, q2, q3, a1, a3⟩
  · exact hh q
  · have a1' : ov s = nI b := a1
    rw [a1', num_nI (by omega)] at h1
    refine h.2.1 (Or.inr ?_)
    rw [a1, h1]
    exact ⟨nI_pos' (by omega), rfl⟩
theorem plc_spec {s : St} {n : Nat} (hR : roomI s) (hs : small s) (hn1 : 1 ≤ n) (hn : n ≤ 12) : placeI (pg (plc s n).2) ∧ disj (plc s n).2 ∧
    (((plc s n).1 = -1 ∧ ∀ j, inRoom (plc s n).2 j → cel s j = none) ∨ ∃ a, (plc s n).1 = nI a ∧ a + n ≤ 128 ∧ (∀ j, a ≤ j → j < a + n → cel s j = none) ∧ ∀ j, inRoom (plc s n).2 j → cel s j = none ∧ ¬ (a ≤ j ∧ j < a + n)) := by
  obtain ⟨hI, hD, hC⟩ := hR
  rw [plc_pg]
  have e1 : (plc s n).1 = (placeG (pg s) n).1 := rfl
  have e2 : (plc s n).2 = spl s (placeG (pg s) n).2 := rfl
  rw [e1, e2]
  have t1 : ∀ B : Gs, hf (spl s B) = B 17 13 := fun B => rfl
  have t2 : ∀ B : Gs, he (spl s B) = B 17 14 := fun B => rfl
  have t3 : ∀ B : Gs, hc (spl s B) = B 17 15 := fun B => rfl
  have t4 : ∀ B : Gs, ov (spl s B) = B 17 16 := fun B => rfl
  have t5 : ∀ B : Gs, oc (spl s B) = B 17 17 := fun B => rfl
  have b1 : pg s 17 13 = hf s := rfl
  have b2 : pg s 17 14 = he s := rfl
  have b3 : pg s 17 15 = hc s := rfl
  have b4 : pg s 17 16 = ov s := rfl
  have b5 : pg s 17 17 = oc s := rfl
  unfold disj at hD
  unfold inRoom at hC
  unfold disj inRoom
  simp only [t1, t2, t3, t4, t5]
  have hI' := hI
  obtain ⟨z29, hH, hO⟩ := hI
  rw [b1, b2, b3] at hH
  rw [b4, b5] at hO
  unfold placeG
  by_cases c1 : pg s 17 13 ≠ -1 ∧ num (pg s 17 15) + n ≤ 4 * num (pg s 17 14)
  · rw [if_pos c1]
    rw [b1, b2, b3] at c1
    rcases hH with q | ⟨f, e, c, q1, q2, q3, q4, a1, a2, a3⟩
    · exact absurd q c1.1
    · have hroom := c1.2
      rw [a2, a3, num_nI (by omega), num_nI (by omega)] at hroom
      rw [a1, a2, a3] at hC
      rw [a1, a2] at hD
      simp only [num_nI (show e < 2 ^ 31 by omega), num_nI (show f < 2 ^ 31 by omega), num_nI (show c < 2 ^ 31 by omega)] at hC hD
      simp only [b1, b2, b3, b4, b5, uI_self, uI_no (show ¬ (17 = 17 ∧ 13 = 15) by decide), uI_no (show ¬ (17 = 17 ∧ 14 = 15) by decide), uI_no (show ¬ (17 = 17 ∧ 16 = 15) by decide), uI_no (show ¬ (17 = 17 ∧ 17 = 15) by decide), a1, a2, a3, num_nI (show e < 2 ^ 31 by omega), num_nI (show f < 2 ^ 31 by omega), num_nI (show c < 2 ^ 31 by omega), num_nI (show c + n < 2 ^ 31 by omega)]
      have hm := nI_m1 (show f < 2 ^ 31 by omega)
      refine ⟨⟨fun l hl => ?_, Or.inr ⟨f, e, c + n, q1, q2, by omega, by omega, (uI_no (by decide)).trans a1, (uI_no (by decide)).trans a2, uI_self _ _ _ _⟩, ?_⟩, hD, Or.inr ⟨c, rfl, by omega, fun j h1 h2 => hC j (Or.inl ⟨hm, h1, by omega⟩), fun j hj => ?_⟩⟩
      · rw [uI_row (by decide)]; exact z29 l hl
      · rw [uI_no (by decide), uI_no (by decide)]; exact hO
      · rcases hj with ⟨-, h1, h2⟩ | ⟨h0, h1, h2⟩
        · exact ⟨hC j (Or.inl ⟨hm, by omega, h2⟩), by omega⟩
        · refine ⟨hC j (Or.inr ⟨h0, h1, h2⟩), fun z => ?_⟩
          rcases hO with w | ⟨b, c', w1, w2, w3, w4, w5⟩
          · exact h0 w
          · have := hD hm h0 (j / 4) (by omega) (by omega)
            rw [w5, num_nI (by omega)] at h1
            rw [w4, num_nI (by omega)] at h2 this
            omega
  · rw [if_neg c1]
    by_cases c2 : n ≤ 4
    · rw [if_pos c2]
      unfold lineG
      cases hl : lst (fun k => freeP (pg s) ((fromL (pg s) + k) % 32)) 32 0 with
      | none =>
        simp only [b1, b2, b3, b4, b5]
        exact ⟨hI', hD, Or.inl ⟨trivial, hC⟩⟩
      | some k =>
        obtain ⟨hp, -, -⟩ := lst_some hl
        have hm : (fromL (pg s) + k) % 32 < 32 := Nat.mod_lt _ (by decide)
        simp only
        generalize (fromL (pg s) + k) % 32 = l at hp hm ⊢
        have hr := runE_le (A := pg s) (b := (l / 8 + 1) * 8) (d := 8) (k := l + 1) (by omega)
        have hrf := runE_free (A := pg s) (b := (l / 8 + 1) * 8) (d := 8) (k := l + 1)
        generalize runE (pg s) ((l / 8 + 1) * 8) 8 (l + 1) = e at hr hrf ⊢
        have hall : ∀ i, l ≤ i → i < e → freeP (pg s) i := by
          intro i h1 h2
          by_cases w : i = l
          · subst w; exact hp
          · exact hrf i (by omega) h2
        simp only [b4, b5, uI_self, uI_no (show ¬ (17 = 17 ∧ 13 = 15) by decide), uI_no (show ¬ (17 = 17 ∧ 13 = 14) by decide), uI_no (show ¬ (17 = 17 ∧ 14 = 15) by decide), uI_no (show ¬ (17 = 17 ∧ 16 = 15) by decide), uI_no (show ¬ (17 = 17 ∧ 16 = 14) by decide), uI_no (show ¬ (17 = 17 ∧ 16 = 13) by decide), uI_no (show ¬ (17 = 17 ∧ 17 = 15) by decide), uI_no (show ¬ (17 = 17 ∧ 17 = 14) by decide), uI_no (show ¬ (17 = 17 ∧ 17 = 13) by decide), num_nI (show e < 2 ^ 31 by omega), num_nI (show l < 2 ^ 31 by omega), num_nI (show 4 * l + n < 2 ^ 31 by omega)]
        refine ⟨⟨fun i hi => ?_, Or.inr ⟨l, e, 4 * l + n, by omega, by omega, by omega, by omega, ((uI_no (by decide)).trans (uI_no (by decide))).trans (uI_self _ _ _ _), (uI_no (by decide)).trans (uI_self _ _ _ _), uI_self _ _ _ _⟩, ?_⟩, ?_, Or.inr ⟨4 * l, rfl, by omega, fun j h1 h2 => free_cells hs hp j h1 (by omega), fun j hj => ?_⟩⟩
        · rw [uI_row (by decide), uI_row (by decide), uI_row (by decide)]; exact z29 i hi
        · rw [uI_no (by decide), uI_no (by decide), uI_no (by decide), uI_no (by decide), uI_no (by decide), uI_no (by decide)]; exact hO
        · intro _ h2 i h3 h4
          exact free_ovf (hall i h3 h4) hI' h2
        · rcases hj with ⟨-, h1, h2⟩ | ⟨h0, h1, h2⟩
          · exact ⟨free_cells hs (hall (j / 4) (by omega) (by omega)) j (by omega) (by omega), by omega⟩
          · refine ⟨hC j (Or.inr ⟨h0, h1, h2⟩), fun z => ?_⟩
            have := free_ovf hp hI' h0
            rcases hO with w | ⟨b, c', w1, w2, w3, w4, w5⟩
            · exact h0 w
            · rw [w5, num_nI (by omega)] at h1
              rw [w4, num_nI (by omega)] at h2 this
              omega
    · rw [if_neg c2]
      by_cases c3 : pg s 17 16 ≠ -1 ∧ num (pg s 17 17) + n ≤ 32 * num (pg s 17 16) + 32
      · rw [if_pos c3]
        rw [b4, b5] at c3
        rcases hO with q | ⟨b, c, q1, q2, q3, a1, a3⟩
        · exact absurd q c3.1
        · have hroom := c3.2
          rw [a1, a3, num_nI (by omega), num_nI (by omega)] at hroom
          rw [a1, a3] at hC
          rw [a1] at hD
          simp only [num_nI (show b < 2 ^ 31 by omega), num_nI (show c < 2 ^ 31 by omega)] at hC hD
          simp only [b1, b2, b3, b4, b5, uI_self, uI_no (show ¬ (17 = 17 ∧ 13 = 17) by decide), uI_no (show ¬ (17 = 17 ∧ 14 = 17) by decide), uI_no (show ¬ (17 = 17 ∧ 15 = 17) by decide), uI_no (show ¬ (17 = 17 ∧ 16 = 17) by decide), a1, a3, num_nI (show b < 2 ^ 31 by omega), num_nI (show c < 2 ^ 31 by omega), num_nI (show c + n < 2 ^ 31 by omega)]
          have hm := nI_m1 (show b < 2 ^ 31 by omega)
          refine ⟨⟨fun l hl => ?_, ?_, Or.inr ⟨b, c + n, q1, by omega, by omega, (uI_no (by decide)).trans a1, uI_self _ _ _ _⟩⟩, hD, Or.inr ⟨c, rfl, by omega, fun j h1 h2 => hC j (Or.inr ⟨hm, h1, by omega⟩), fun j hj => ?_⟩⟩
          · rw [uI_row (by decide)]; exact z29 l hl
          · rw [uI_no (by decide), uI_no (by decide), uI_no (by decide)]; exact hH
          · rcases hj with ⟨h0, h1, h2⟩ | ⟨h0, h1, h2⟩
            · refine ⟨hC j (Or.inl ⟨h0, h1, h2⟩), fun z => ?_⟩
              rcases hH with w | ⟨f, e, c', w1, w2, w3, w4, w5, w6, w7⟩
              · exact h0 w
              · have hd := hD h0 hm (j / 4)
                rw [w5, w6, num_nI (by omega), num_nI (by omega)] at hd
                rw [w7, num_nI (by omega)] at h1
                rw [w6, num_nI (by omega)] at h2
                have := hd (by omega) (by omega)
                omega
            · exact ⟨hC j (Or.inr ⟨hm, by omega, h2⟩), by omega⟩
      · rw [if_neg c3]
        unfold blockG
        cases hl : lst (freeB (pg s)) 4 0 with
        | none =>
          simp only [b1, b2, b3, b4, b5]
          exact ⟨hI', hD, Or.inl ⟨trivial, hC⟩⟩
        | some b =>
          obtain ⟨hp, -, hb⟩ := lst_some hl
          simp only [b1, b2, b3, uI_self, uI_no (show ¬ (17 = 17 ∧ 13 = 17) by decide), uI_no (show ¬ (17 = 17 ∧ 13 = 16) by decide), uI_no (show ¬ (17 = 17 ∧ 14 = 17) by decide), uI_no (show ¬ (17 = 17 ∧ 14 = 16) by decide), uI_no (show ¬ (17 = 17 ∧ 15 = 17) by decide), uI_no (show ¬ (17 = 17 ∧ 15 = 16) by decide), uI_no (show ¬ (17 = 17 ∧ 16 = 17) by decide), num_nI (show b < 2 ^ 31 by omega), num_nI (show 32 * b + n < 2 ^ 31 by omega)]
          have hcell : ∀ j, 32 * b ≤ j → j < 32 * b + 32 → cel s j = none := fun j h1 h2 => free_cells hs (hp (j / 4) (by omega) (by omega)) j (by omega) (by omega)
          refine ⟨⟨fun i hi => ?_, ?_, Or.inr ⟨b, 32 * b + n, by omega, by omega, by omega, (uI_no (by decide)).trans (uI_self _ _ _ _), uI_self _ _ _ _⟩⟩, ?_, Or.inr ⟨32 * b, rfl, by omega, fun j h1 h2 => hcell j h1 (by omega), fun j hj => ?_⟩⟩
          · rw [uI_row (by decide), uI_row (by decide)]; exact z29 i hi
          · rw [uI_no (by decide), uI_no (by decide), uI_no (by decide), uI_no (by decide), uI_no (by decide), uI_no (by decide)]; exact hH
          · intro h1 _ i h3 h4 h5
            rcases hH with w | ⟨f, e, c', w1, w2, w3, w4, w5, w6, w7⟩
            · exact h1 w
            · have h6 := free_hole (l := i) (by rw [w6, num_nI (by omega)] at h4; omega) (hp i (by omega) (by omega)) hI' h1
              exact h6 ⟨h3, h4⟩
          · rcases hj with ⟨h0, h1, h2⟩ | ⟨h0, h1, h2⟩
            · refine ⟨hC j (Or.inl ⟨h0, h1, h2⟩), fun z => ?_⟩
              rcases hH with w | ⟨f, e, c', w1, w2, w3, w4, w5, w6, w7⟩
              · exact h0 w
              · have h6 := free_hole (l := j / 4) (by omega) (hp (j / 4) (by omega) (by omega)) hI' h0
                rw [w5, w6, num_nI (by omega), num_nI (by omega)] at h6
                rw [w7, num_nI (by omega)] at h1
                rw [w6, num_nI (by omega)] at h2
                omega
            · exact ⟨hcell j (by omega) h2, by omega⟩
