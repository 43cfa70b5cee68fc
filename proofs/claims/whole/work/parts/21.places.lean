/-! Lines, used and free: the reference's state (its rows of ints, regions 17 to 33) as the abstract one -/
abbrev Gs : Type := Nat → Nat → Int32
def gh (μ : Mem) : Gs := fun r j => if 17 ≤ r ∧ r ≤ 33 then mI μ r j else 0
def uI (A : Gs) (r j : Nat) (v : Int32) : Gs := fun x y => if x = r ∧ y = j then v else A x y
theorem uI_eq (A : Gs) (r j : Nat) (v : Int32) (x y : Nat) : uI A r j v x y = if x = r ∧ y = j then v else A x y := rfl
theorem gh_in {μ : Mem} {r : Nat} (h : 17 ≤ r ∧ r ≤ 33) (j : Nat) : gh μ r j = mI μ r j := if_pos h
theorem gh_sI {μ : Mem} {r j : Nat} {v : Int32} (h : 17 ≤ r ∧ r ≤ 33) : gh (sI μ r j v) = uI (gh μ) r j v := by
  funext x y
  show (if 17 ≤ x ∧ x ≤ 33 then mI (sI μ r j v) x y else 0) = (if x = r ∧ y = j then v else if 17 ≤ x ∧ x ≤ 33 then mI μ x y else 0)
  by_cases hx : 17 ≤ x ∧ x ≤ 33
  · rw [if_pos hx, if_pos hx, mI_sI]
  · rw [if_neg hx, if_neg hx, if_neg]
    rintro ⟨rfl, -⟩
    exact hx h
theorem gh_out {μ : Mem} {r j : Nat} {v : Int32} (h : ¬ (17 ≤ r ∧ r ≤ 33)) : gh (sI μ r j v) = gh μ := by
  funext x y
  unfold gh
  by_cases hx : 17 ≤ x ∧ x ≤ 33
  · rw [if_pos hx, if_pos hx, mI_sI, if_neg]
    rintro ⟨rfl, -⟩
    exact h hx
  · rw [if_neg hx, if_neg hx]
theorem gh_sR (μ : Mem) (r j : Nat) (v : Option Nat) : gh (sR μ r j v) = gh μ := rfl
def ow (A : Gs) (j : Nat) : Nat := if 0 ≤ A 18 j then 1 else 0
def cntL (A : Gs) (l : Nat) : Nat := ow A (4 * l) + ow A (4 * l + 1) + ow A (4 * l + 2) + ow A (4 * l + 3)
def usedP (A : Gs) (l : Nat) : Prop := A 29 l = 1 ∨ 0 < cntL A l
def takenP (A : Gs) (l : Nat) : Prop := (0 ≤ A 17 13 ∧ ¬ nI l < A 17 13 ∧ nI l < A 17 14) ∨ (0 ≤ A 17 16 ∧ nI (l / 8) = A 17 16)
def freeP (A : Gs) (l : Nat) : Prop := ¬ usedP A l ∧ ¬ takenP A l ∧ ¬ nI (l / 8) = A 17 19
theorem ow_le (A : Gs) (j : Nat) : ow A j ≤ 1 := by unfold ow; split <;> omega
theorem ow_pos {A : Gs} {j : Nat} : 0 < ow A j ↔ 0 ≤ A 18 j := by unfold ow; split <;> simp_all
theorem i_nlt {x : Int32} : ¬ x < 0 ↔ 0 ≤ x := by rw [Int32.not_lt]
theorem zb_cases {v : Int32} (h : zb v) : (v = 0 ∧ ¬ v = 1) ∨ (v = 1 ∧ ¬ v = 0) := by
  rcases h with rfl | rfl
  · exact Or.inl ⟨rfl, by decide⟩
  · exact Or.inr ⟨rfl, by decide⟩
theorem isUsed_loop {l : Nat} (hl : l < 32) {k : Int32 → Int32 → Mem → Prop} {μ : Mem} : ∀ (d c : Nat) (v : Int32), c + d = 4 * l + 4 → zb v →
    ((v = 1 ∨ ∃ j, c ≤ j ∧ j < 4 * l + 4 ∧ 0 ≤ mI μ 18 j) → ∀ l3, k 1 l3 μ) → ((v = 0 ∧ ∀ j, c ≤ j → j < 4 * l + 4 → mI μ 18 j < 0) → ∀ l3, k 0 l3 μ) → wM_isUsed_11 (nI l) k (d + 1) v (nI c) μ := by
  intro d
  induction d with
  | zero =>
    intro c v hc hz h1 h0
    unfold wM_isUsed_11
    simp (disch := omega) only [nI_leI, nI_add, nI_mul, li_4]
    refine ⟨fun _ => ?_, fun h => absurd (by omega) h⟩
    rcases zb_cases hz with ⟨rfl, -⟩ | ⟨rfl, -⟩
    · exact h0 ⟨rfl, fun j _ _ => by omega⟩ _
    · exact h1 (Or.inl rfl) _
  | succ d ih =>
    intro c v hc hz h1 h0
    unfold wM_isUsed_11
    refine ⟨fun h => ?_, fun _ => ?_⟩
    · exfalso
      have h2 : nI (4 * l + 4) ≤ nI c := by rw [← nI_add, ← nI_mul]; exact h
      rw [nI_leI (by omega) (by omega)] at h2
      omega
    · have hnext : nI c + 1 = nI (c + 1) := nI_1 c
      rw [hnext]
      refine ⟨fun hv => ⟨(nI_vp (by omega)).mpr (by omega), ?_⟩, fun hv => ?_⟩
      · rw [nI_clamp (by omega)]
        refine ⟨fun hj => ih (c + 1) 0 (by omega) (Or.inl rfl) (fun h => ?_) (fun h => ?_), fun hj => ih (c + 1) 1 (by omega) (Or.inr rfl) (fun _ => ?_) (fun h => absurd h.1 (by decide))⟩
        · rcases h with h | ⟨j, q1, q2, q3⟩
          · exact absurd h (by decide)
          · exact h1 (Or.inr ⟨j, by omega, q2, q3⟩)
        · refine h0 ⟨hv, fun j q1 q2 => ?_⟩
          by_cases e : j = c
          · subst e; exact hj
          · exact h.2 j (by omega) q2
        · exact h1 (Or.inr ⟨c, Nat.le_refl _, by omega, i_nlt.mp hj⟩)
      · refine ih (c + 1) 1 (by omega) (Or.inr rfl) (fun _ => h1 (Or.inl ?_)) (fun h => absurd h.1 (by decide))
        rcases zb_cases hz with ⟨e, -⟩ | ⟨e, -⟩
        · exact absurd e hv
        · exact e
theorem cnt_ex {A : Gs} {l : Nat} : 0 < cntL A l ↔ ∃ j, 4 * l ≤ j ∧ j < 4 * l + 4 ∧ 0 ≤ A 18 j := by
  unfold cntL
  constructor
  · intro h
    have : 0 < ow A (4 * l) ∨ 0 < ow A (4 * l + 1) ∨ 0 < ow A (4 * l + 2) ∨ 0 < ow A (4 * l + 3) := by omega
    rcases this with h | h | h | h
    · exact ⟨_, Nat.le_refl _, by omega, ow_pos.mp h⟩
    · exact ⟨_, by omega, by omega, ow_pos.mp h⟩
    · exact ⟨_, by omega, by omega, ow_pos.mp h⟩
    · exact ⟨_, by omega, by omega, ow_pos.mp h⟩
  · rintro ⟨j, h1, h2, h3⟩
    have h4 := ow_pos.mpr h3
    have : j = 4 * l ∨ j = 4 * l + 1 ∨ j = 4 * l + 2 ∨ j = 4 * l + 3 := by omega
    rcases this with rfl | rfl | rfl | rfl <;> omega
theorem m_isUsed {l : Nat} (hl : l < 32) {post : Int32 → Mem → Prop} {μ : Mem} (hz : zb (mI μ 29 l)) (h1 : usedP (gh μ) l → post 1 μ) (h0 : ¬ usedP (gh μ) l → post 0 μ) : wM_isUsed (nI l) post μ := by
  unfold wM_isUsed
  refine ⟨(nI_vp (by omega)).mpr hl, 5, ?_⟩
  rw [nI_clamp (by omega)]
  have e : 4 * nI l = nI (4 * l) := nI_mul 4 l
  rw [e]
  refine isUsed_loop hl 4 (4 * l) _ (by omega) hz (fun h l3 => ⟨Or.inr rfl, h1 ?_⟩) (fun h l3 => ⟨Or.inl rfl, h0 ?_⟩)
  · rcases h with h | h
    · exact Or.inl h
    · exact Or.inr (cnt_ex.mpr h)
  · rintro (q | q)
    · have q1 : mI μ 29 l = 1 := q
      rw [h.1] at q1
      exact absurd q1 (by decide)
    · obtain ⟨j, q1, q2, q3⟩ := cnt_ex.mp q
      have := h.2 j q1 q2
      exact absurd q3 (by rw [← i_nlt]; exact fun h => h this)
theorem m_isTaken {l : Nat} (hl : l < 32) {post : Int32 → Mem → Prop} {μ : Mem} (h1 : takenP (gh μ) l → post 1 μ) (h0 : ¬ takenP (gh μ) l → post 0 μ) : wM_isTaken (nI l) post μ := by
  have ed : nI l / 8 = nI (l / 8) := nI_div (b := 8) (by omega) (by omega)
  have tail : ¬ (0 ≤ mI μ 17 13 ∧ ¬ nI l < mI μ 17 13 ∧ nI l < mI μ 17 14) → wM_isTaken_23 (nI l) post μ := by
    intro hn
    unfold wM_isTaken_23
    rw [ed]
    refine ⟨fun h => h0 ?_, fun h => ⟨fun h2 => h1 (Or.inr ⟨i_nlt.mp h, h2⟩), fun h2 => h0 ?_⟩⟩
    · rintro (q | q)
      · exact hn q
      · exact absurd h (i_nlt.mpr q.1)
    · rintro (q | q)
      · exact hn q
      · exact h2 q.2
  unfold wM_isTaken
  refine ⟨fun h => tail (fun q => absurd h (i_nlt.mpr q.1)), fun h => ⟨fun h2 => tail (fun q => q.2.1 h2), fun h2 => ⟨fun h3 => h1 (Or.inl ⟨i_nlt.mp h, h2, h3⟩), fun h3 => tail (fun q => h3 q.2.2)⟩⟩⟩
theorem m_isFree {l : Nat} (hl : l < 32) {post : Int32 → Mem → Prop} {μ : Mem} (hz : zb (mI μ 29 l)) (h1 : freeP (gh μ) l → post 1 μ) (h0 : ¬ freeP (gh μ) l → post 0 μ) : wM_isFree (nI l) post μ := by
  have ed : nI l / 8 = nI (l / 8) := nI_div (b := 8) (by omega) (by omega)
  unfold wM_isFree
  refine m_isUsed hl hz (fun hu => ⟨fun h => absurd h (by decide), fun _ => h0 (fun q => q.1 hu)⟩) (fun hu => ⟨fun _ => ?_, fun h => absurd rfl h⟩)
  refine m_isTaken hl (fun ht => ⟨fun h => absurd h (by decide), fun _ => h0 (fun q => q.2.1 ht)⟩) (fun ht => ⟨fun _ => ?_, fun h => absurd rfl h⟩)
  rw [ed]
  exact ⟨fun h => h0 (fun q => q.2.2 h), fun h => h1 ⟨hu, ht, h⟩⟩
/-- the class's places against the reference's -/
def holeR (μ : Mem) (A : Gs) : Prop := (A 17 13 = -1 ∧ mI μ 7 0 = 0 ∧ mI μ 7 1 = 0 ∧ mI μ 7 2 = 0) ∨
  (∃ f e c : Nat, f < e ∧ e ≤ 32 ∧ 4 * f ≤ c ∧ c ≤ 4 * e ∧ A 17 13 = nI f ∧ A 17 14 = nI e ∧ A 17 15 = nI c ∧ mI μ 7 0 = nI (4 * f) ∧ mI μ 7 1 = nI c ∧ mI μ 7 2 = nI (4 * e))
def ovfR (μ : Mem) (A : Gs) : Prop := (A 17 16 = -1 ∧ mI μ 8 0 = 0 ∧ mI μ 8 1 = 0 ∧ mI μ 8 2 = 0) ∨
  (∃ b c : Nat, b < 4 ∧ 32 * b ≤ c ∧ c ≤ 32 * b + 32 ∧ A 17 16 = nI b ∧ A 17 17 = nI c ∧ mI μ 8 0 = nI (32 * b) ∧ mI μ 8 1 = nI c ∧ mI μ 8 2 = nI (32 * b + 32))
def PR (μ : Mem) (A : Gs) : Prop := (∀ l, l < 32 → mI μ 5 l = nI (cntL A l)) ∧ (∀ l, l < 32 → mI μ 6 l = A 29 l ∧ zb (A 29 l)) ∧ mI μ 4 4 = A 17 19 ∧ holeR μ A ∧ ovfR μ A
theorem cnt_le (A : Gs) (l : Nat) : cntL A l ≤ 4 := by
  have h1 := ow_le A (4 * l)
  have h2 := ow_le A (4 * l + 1)
  have h3 := ow_le A (4 * l + 2)
  have h4 := ow_le A (4 * l + 3)
  unfold cntL
  omega
theorem c_isUsed {l : Nat} (hl : l < 32) {post : Int32 → Mem → Prop} {μ : Mem} {A : Gs} (hP : PR μ A) (h1 : usedP A l → post 1 μ) (h0 : ¬ usedP A l → post 0 μ) : wP_isUsed (nI l) post μ := by
  obtain ⟨p1, p2, -⟩ := hP
  have hc := cnt_le A l
  unfold wP_isUsed
  rw [nI_clamp (by omega), p1 l hl, (p2 l hl).1]
  refine ⟨(nI_vp (by omega)).mpr hl, fun h => h1 (Or.inr ?_), fun h => ⟨fun h2 => h0 ?_, fun h2 => h1 (Or.inl ?_)⟩⟩
  · rw [li_0, nI_ltI (by omega) (by omega)] at h; exact h
  · rintro (q | q)
    · rw [h2] at q; exact absurd q (by decide)
    · exact h (by rw [li_0, nI_ltI (by omega) (by omega)]; exact q)
  · rcases zb_cases (p2 l hl).2 with ⟨e, -⟩ | ⟨e, -⟩
    · exact absurd e h2
    · exact e
theorem c_coversH {l : Nat} (hl : l < 32) {post : Int32 → Mem → Prop} {μ : Mem} {A : Gs} (hL : Lay μ) (hP : holeR μ A) (h1 : (0 ≤ A 17 13 ∧ ¬ nI l < A 17 13 ∧ nI l < A 17 14) → post 1 μ) (h0 : ¬ (0 ≤ A 17 13 ∧ ¬ nI l < A 17 13 ∧ nI l < A 17 14) → post 0 μ) : wS_covers 7 (nI l) post μ := by
  unfold wS_covers
  have e4 : nI l * 4 = nI (l * 4) := nI_mul l 4
  refine ⟨⟨Nat.lt_of_lt_of_le (by decide) hL.1, (hL.2 7 _ rfl).1⟩, ?_⟩
  rw [e4]
  rcases hP with ⟨a1, a2, a3, a4⟩ | ⟨f, e, c, q1, q2, q3, q4, a1, a2, a3, a5, a6, a7⟩
  · rw [a2, a4]
    refine ⟨fun h => absurd h (nI_pos (by omega)), fun _ => ⟨fun _ => h0 (fun q => ?_), fun h => absurd (nI_pos' (by omega)) h⟩⟩
    rw [a1] at q
    exact absurd q.1 (by decide)
  · rw [a5, a7]
    rw [a1, a2] at h1 h0
    simp (disch := omega) only [nI_ltI, nI_leI] at h1 h0 ⊢
    refine ⟨fun h => h0 (fun q => ?_), fun h => ⟨fun h2 => h0 (fun q => ?_), fun h2 => h1 ⟨nI_pos' (by omega), by omega, by omega⟩⟩⟩
    · omega
    · omega
theorem c_coversO {l : Nat} (hl : l < 32) {post : Int32 → Mem → Prop} {μ : Mem} {A : Gs} (hL : Lay μ) (hP : ovfR μ A) (h1 : (0 ≤ A 17 16 ∧ nI (l / 8) = A 17 16) → post 1 μ) (h0 : ¬ (0 ≤ A 17 16 ∧ nI (l / 8) = A 17 16) → post 0 μ) : wS_covers 8 (nI l) post μ := by
  unfold wS_covers
  have e4 : nI l * 4 = nI (l * 4) := nI_mul l 4
  refine ⟨⟨Nat.lt_of_lt_of_le (by decide) hL.1, (hL.2 8 _ rfl).1⟩, ?_⟩
  rw [e4]
  rcases hP with ⟨a1, a2, a3, a4⟩ | ⟨b, c, q1, q2, q3, a1, a3, a5, a6, a7⟩
  · rw [a2, a4]
    refine ⟨fun h => absurd h (nI_pos (by omega)), fun _ => ⟨fun _ => h0 (fun q => ?_), fun h => absurd (nI_pos' (by omega)) h⟩⟩
    rw [a1] at q
    exact absurd q.1 (by decide)
  · rw [a5, a7]
    rw [a1] at h1 h0
    simp (disch := omega) only [nI_ltI, nI_leI, nI_eq] at h1 h0 ⊢
    refine ⟨fun h => h0 (fun q => ?_), fun h => ⟨fun h2 => h0 (fun q => ?_), fun h2 => h1 ⟨nI_pos' (by omega), by omega⟩⟩⟩
    · omega
    · omega
theorem c_isFree {l : Nat} (hl : l < 32) {post : Int32 → Mem → Prop} {μ : Mem} {A : Gs} (hL : Lay μ) (hP : PR μ A) (h1 : freeP A l → post 1 μ) (h0 : ¬ freeP A l → post 0 μ) : wP_isFree (nI l) post μ := by
  obtain ⟨p1, p2, p3, p4, p5⟩ := hP
  have hc := cnt_le A l
  have ed : nI l / 8 = nI (l / 8) := nI_div (b := 8) (by omega) (by omega)
  have eu : usedP A l ↔ ¬ (nI (cntL A l) = 0 ∧ A 29 l = 0) := by
    unfold usedP
    rw [li_0, nI_eq (by omega) (by omega)]
    constructor
    · rintro (q | q) ⟨a, b⟩
      · rw [q] at b; exact absurd b (by decide)
      · omega
    · intro h
      by_cases e : cntL A l = 0
      · rcases zb_cases (p2 l hl).2 with ⟨e2, -⟩ | ⟨e2, -⟩
        · exact absurd ⟨e, e2⟩ h
        · exact Or.inl e2
      · exact Or.inr (by omega)
  unfold wP_isFree
  rw [nI_clamp (by omega), p1 l hl, (p2 l hl).1, ed, p3]
  refine ⟨(nI_vp (by omega)).mpr hl, fun a1 => ⟨fun a2 => ⟨fun a3 => h0 (fun q => q.2.2 a3), fun a3 => ?_⟩, fun a2 => h0 (fun q => q.1 (eu.mpr (fun z => a2 z.2)))⟩, fun a1 => h0 (fun q => q.1 (eu.mpr (fun z => a1 z.1)))⟩
  have hu : ¬ usedP A l := fun q => eu.mp q ⟨a1, a2⟩
  refine c_coversH hl hL p4 (fun t => ⟨fun h => absurd h (by decide), fun _ => h0 (fun q => q.2.1 (Or.inl t))⟩) (fun t => ⟨fun _ => ?_, fun h => absurd rfl h⟩)
  refine c_coversO hl hL p5 (fun t2 => ⟨fun h => absurd h (by decide), fun _ => h0 (fun q => q.2.1 (Or.inr t2))⟩) (fun t2 => ⟨fun _ => h1 ⟨hu, fun q => ?_, a3⟩, fun h => absurd rfl h⟩)
  rcases q with q | q
  · exact t q
  · exact t2 q
