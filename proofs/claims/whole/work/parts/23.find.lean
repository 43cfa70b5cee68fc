/-! Only the regions of S have changed -/
/-- (the reference's last code stays too) -/
def Fr (S : Nat → Prop) (μ μ1 : Mem) : Prop := (mN μ1 = mN μ ∧ mI μ1 17 0 = mI μ 17 0) ∧ (∀ r, mK μ1 r = mK μ r ∧ mL μ1 r = mL μ r) ∧ ∀ r, ¬ S r → mI μ1 r = mI μ r ∧ mR μ1 r = mR μ r
theorem Fr.refl {S : Nat → Prop} (μ : Mem) : Fr S μ μ := ⟨⟨rfl, rfl⟩, fun _ => ⟨rfl, rfl⟩, fun _ _ => ⟨rfl, rfl⟩⟩
theorem Fr.trans {S : Nat → Prop} {μ μ1 μ2 : Mem} (h : Fr S μ μ1) (g : Fr S μ1 μ2) : Fr S μ μ2 :=
  ⟨⟨g.1.1.trans h.1.1, g.1.2.trans h.1.2⟩, fun r => ⟨(g.2.1 r).1.trans (h.2.1 r).1, (g.2.1 r).2.trans (h.2.1 r).2⟩, fun r hr => ⟨(g.2.2 r hr).1.trans (h.2.2 r hr).1, (g.2.2 r hr).2.trans (h.2.2 r hr).2⟩⟩
theorem Fr.mono {S T : Nat → Prop} {μ μ1 : Mem} (h : Fr S μ μ1) (hs : ∀ r, S r → T r) : Fr T μ μ1 := ⟨h.1, h.2.1, fun r hr => h.2.2 r (fun q => hr (hs r q))⟩
theorem Fr.sI {S : Nat → Prop} {μ : Mem} {r j : Nat} {v : Int32} (h : S r) (hc : ¬ (r = 17 ∧ j = 0) := by omega) : Fr S μ (sI μ r j v) := ⟨⟨rfl, by rw [mI_sI, if_neg (fun q => hc ⟨q.1.symm, q.2.symm⟩)]⟩, fun _ => ⟨rfl, rfl⟩, fun x hx => ⟨mI_ne (fun e => hx (e ▸ h)), rfl⟩⟩
theorem Fr.sR {S : Nat → Prop} {μ : Mem} {r j : Nat} {v : Option Nat} (h : S r) : Fr S μ (sR μ r j v) := ⟨⟨rfl, rfl⟩, fun _ => ⟨rfl, rfl⟩, fun x hx => ⟨rfl, mR_ne (fun e => hx (e ▸ h))⟩⟩
theorem Fr.Lay {S : Nat → Prop} {μ μ1 : Mem} (h : Fr S μ μ1) (hL : Lay μ) : Lay μ1 := ⟨by rw [h.1.1]; exact hL.1, fun r q hq => by rw [(h.2.1 r).1, (h.2.1 r).2]; exact hL.2 r q hq⟩
theorem Fr.ok {S : Nat → Prop} {μ μ1 : Mem} (h : Fr S μ μ1) {r k : Nat} (ho : okO μ r k) : okO μ1 r k := ⟨by rw [h.1.1]; exact ho.1, by rw [(h.2.1 r).1]; exact ho.2⟩
theorem Fr.gh {S : Nat → Prop} {μ μ1 : Mem} (h : Fr S μ μ1) (hs : ∀ r, S r → ¬ (17 ≤ r ∧ r ≤ 33)) : gh μ1 = gh μ := by
  funext r j
  show (if 17 ≤ r ∧ r ≤ 33 then mI μ1 r j else 0) = (if 17 ≤ r ∧ r ≤ 33 then mI μ r j else 0)
  by_cases hr : 17 ≤ r ∧ r ≤ 33
  · rw [if_pos hr, if_pos hr, (h.2.2 r (fun q => hs r q hr)).1]
  · rw [if_neg hr, if_neg hr]
theorem lay_ok {μ : Mem} (hL : Lay μ) {r k n : Nat} (h : layKs[r]? = some (k, n)) : okO μ r k := ⟨Nat.lt_of_lt_of_le (lay_lt h) hL.1, (hL.2 r _ h).1⟩
def spS (r : Nat) : Prop := r = 7 ∨ r = 8
/-! The class's search -/
theorem cnt_u17 {A : Gs} {j l : Nat} {v : Int32} : cntL (uI A 17 j v) l = cntL A l := by
  simp [cntL, ow, uI_eq]
theorem PR.span {μ μ1 : Mem} {A A' : Gs} (h : PR μ A) (hF : Fr spS μ μ1) (h18 : A' 18 = A 18) (h29 : A' 29 = A 29) (h19 : A' 17 19 = A 17 19) (hh : holeR μ1 A') (ho : ovfR μ1 A') : PR μ1 A' := by
  obtain ⟨p1, p2, p3, p4, p5⟩ := h
  have e5 := (hF.2.2 5 (by unfold spS; omega)).1
  have e6 := (hF.2.2 6 (by unfold spS; omega)).1
  have e4 := (hF.2.2 4 (by unfold spS; omega)).1
  refine ⟨fun l hl => ?_, fun l hl => ?_, ?_, hh, ho⟩
  · rw [e5, p1 l hl]
    simp [cntL, ow, h18]
  · rw [e6, h29]
    exact p2 l hl
  · rw [e4, h19]
    exact p3
theorem c_has7 {n : Nat} (hn1 : 1 ≤ n) (hn : n ≤ 12) {post : Int32 → Mem → Prop} {μ : Mem} {A : Gs} (hL : Lay μ) (hP : holeR μ A) (h1 : (A 17 13 ≠ -1 ∧ num (A 17 15) + n ≤ 4 * num (A 17 14)) → post 1 μ) (h0 : ¬ (A 17 13 ≠ -1 ∧ num (A 17 15) + n ≤ 4 * num (A 17 14)) → post 0 μ) : wS_has 7 (nI n) post μ := by
  unfold wS_has
  refine ⟨lay_ok hL rfl, ?_⟩
  rcases hP with ⟨a1, a2, a3, a4⟩ | ⟨f, e, c, q1, q2, q3, q4, a1, a2, a3, a5, a6, a7⟩
  · rw [a3, a4]
    have e0 : (0 : Int32) - 0 = nI 0 := by decide
    rw [e0, nI_ltI (by omega) (by omega)]
    exact ⟨fun _ => h0 (fun q => q.1 a1), fun q => absurd (by omega) q⟩
  · have n2 : num (A 17 14) = e := by rw [a2]; exact nI_clamp (by omega)
    have n3 : num (A 17 15) = c := by rw [a3]; exact nI_clamp (by omega)
    have hne : A 17 13 ≠ -1 := by rw [a1]; exact nI_m1 (by omega)
    rw [n2, n3] at h1 h0
    rw [a6, a7, nI_sub (by omega), nI_ltI (by omega) (by omega)]
    exact ⟨fun q => h0 (fun z => by have := z.2; omega), fun q => h1 ⟨hne, by omega⟩⟩
theorem c_has8 {n : Nat} (hn1 : 1 ≤ n) (hn : n ≤ 12) {post : Int32 → Mem → Prop} {μ : Mem} {A : Gs} (hL : Lay μ) (hP : ovfR μ A) (h1 : (A 17 16 ≠ -1 ∧ num (A 17 17) + n ≤ 32 * num (A 17 16) + 32) → post 1 μ) (h0 : ¬ (A 17 16 ≠ -1 ∧ num (A 17 17) + n ≤ 32 * num (A 17 16) + 32) → post 0 μ) : wS_has 8 (nI n) post μ := by
  unfold wS_has
  refine ⟨lay_ok hL rfl, ?_⟩
  rcases hP with ⟨a1, a2, a3, a4⟩ | ⟨b, c, q1, q2, q3, a1, a3, a5, a6, a7⟩
  · rw [a3, a4]
    have e0 : (0 : Int32) - 0 = nI 0 := by decide
    rw [e0, nI_ltI (by omega) (by omega)]
    exact ⟨fun _ => h0 (fun q => q.1 a1), fun q => absurd (by omega) q⟩
  · have n2 : num (A 17 16) = b := by rw [a1]; exact nI_clamp (by omega)
    have n3 : num (A 17 17) = c := by rw [a3]; exact nI_clamp (by omega)
    have hne : A 17 16 ≠ -1 := by rw [a1]; exact nI_m1 (by omega)
    rw [n2, n3] at h1 h0
    rw [a6, a7, nI_sub (by omega), nI_ltI (by omega) (by omega)]
    exact ⟨fun q => h0 (fun z => by have := z.2; omega), fun q => h1 ⟨hne, by omega⟩⟩
theorem c_run_loop {b : Nat} (hb : b ≤ 32) {k : Int32 → Mem → Prop} {μ : Mem} {A : Gs} (hL : Lay μ) (hP : PR μ A) : ∀ (d c : Nat), c + d = b + 1 → c ≤ b → k (nI (runE A b d c)) μ → wP_openHole_47 (nI b) k d (nI c) μ := by
  intro d
  induction d with
  | zero => intro c hc hcb _; omega
  | succ d ih =>
    intro c hc hcb0 h
    unfold wP_openHole_47
    rw [nI_leI (by omega) (by omega), nI_1]
    refine ⟨fun q => ?_, fun q => ?_⟩
    · rw [runE_out (by omega)] at h
      exact h
    · have hcb : c < b := by omega
      refine c_isFree (by omega) hL hP (fun hp => ⟨fun h => absurd h (by decide), fun _ => ih (c + 1) (by omega) (by omega) ?_⟩) (fun hp => ⟨fun _ => ?_, fun h => absurd rfl h⟩)
      · rw [runE_on hcb hp] at h; exact h
      · rw [runE_stop hcb hp] at h; exact h
/-- the class's hole, opened at a line -/
def opn (μ : Mem) (x l e : Nat) : Mem := sI (sI (sI μ x 0 (nI (4 * l))) x 1 (nI (4 * l))) x 2 (nI (4 * e))
theorem c_open {x l e : Nat} (hl : l ≤ 32) (he : e ≤ 32) {post : Mem → Prop} {μ : Mem} (ho : okO μ x 2) (h : post (opn μ x l e)) : wS_open x (nI l) (nI e) post μ := by
  unfold wS_open
  refine ⟨ho, ?_⟩
  intro μ2 e2 μ3 e3 μ4 e4
  have e5 : nI l * 4 = nI (4 * l) := by rw [li_4, nI_mul, Nat.mul_comm]
  have e6 : nI e * 4 = nI (4 * e) := by rw [li_4, nI_mul, Nat.mul_comm]
  subst e2; subst e3; subst e4
  rw [e5, e6, mI_sI_self]
  exact h
theorem c_hole_loop {fr : Nat} (hf : fr ≤ 32) {k post : Int32 → Mem → Prop} {μ : Mem} {A : Gs} (hL : Lay μ) (hP : PR μ A) : ∀ (d c : Nat), c + d = 32 →
    (∀ j, lst (fun k => freeP A ((fr + k) % 32)) d c = some j → post 1 (opn μ 7 ((fr + j) % 32) (runE A (((fr + j) % 32 / 8 + 1) * 8) 8 ((fr + j) % 32 + 1)))) → (lst (fun k => freeP A ((fr + k) % 32)) d c = none → k (nI 32) μ) → wP_openHole_10 (nI fr) k post (d + 1) (nI c) μ := by
  intro d
  induction d with
  | zero =>
    intro c hc h1 h0
    have : c = 32 := by omega
    subst this
    unfold wP_openHole_10
    exact ⟨fun _ => h0 rfl, fun h => absurd (show (32 : Int32) ≤ nI 32 by decide) h⟩
  | succ d ih =>
    intro c hc h1 h0
    unfold wP_openHole_10
    have em : (nI fr + nI c) - (nI fr + nI c) / 32 * 32 = nI ((fr + c) % 32) := by
      rw [nI_add]
      exact nI_rem (b := 32) (by omega) (by omega)
    have hm : (fr + c) % 32 < 32 := Nat.mod_lt _ (by decide)
    have eb : (nI ((fr + c) % 32) / 8 + 1) * 8 = nI (((fr + c) % 32 / 8 + 1) * 8) := by
      have : nI ((fr + c) % 32) / 8 = nI ((fr + c) % 32 / 8) := nI_div (b := 8) (by omega) (by omega)
      rw [this, nI_1, li_8, nI_mul]
    rw [em, eb, nI_1, nI_1]
    refine ⟨fun h => ?_, fun _ => ?_⟩
    · exfalso
      rw [li_32, nI_leI (by omega) (by omega)] at h
      omega
    · refine c_isFree hm hL hP (fun hp => ⟨fun h => absurd h (by decide), fun _ => ?_⟩) (fun hp => ⟨fun _ => ih (c + 1) (by omega) ?_ ?_, fun h => absurd rfl h⟩)
      · have h2 := h1 c (lst_hit (p := fun k => freeP A ((fr + k) % 32)) hp)
        generalize (fr + c) % 32 = l at hm hp h2 ⊢
        refine ⟨(l / 8 + 1) * 8 + 1 - (l + 1), c_run_loop (by omega) hL hP _ (l + 1) (by omega) (by omega) ?_⟩
        have hr := runE_le (A := A) (b := (l / 8 + 1) * 8) (d := (l / 8 + 1) * 8 + 1 - (l + 1)) (k := l + 1) (by omega)
        refine c_open (by omega) (by omega) (lay_ok hL rfl) ?_
        rw [runE_fuel ((l / 8 + 1) * 8 + 1 - (l + 1)) 8 (l + 1) (by omega) (by omega)]
        exact h2
      · intro j hj
        exact h1 j ((lst_miss (p := fun k => freeP A ((fr + k) % 32)) hp).trans hj)
      · intro hj
        exact h0 ((lst_miss (p := fun k => freeP A ((fr + k) % 32)) hp).trans hj)
theorem c_cnt_loop {b : Nat} (hb : b < 4) {k : Int32 → Int32 → Mem → Prop} {μ : Mem} {A : Gs} (hL : Lay μ) (hP : PR μ A) : ∀ (d c m : Nat), c + d = 8 * b + 8 → 8 * b ≤ c → m ≤ c - 8 * b → (m = c - 8 * b ↔ ∀ l, 8 * b ≤ l → l < c → freeP A l) →
    (∀ m', m' ≤ 8 → (m' = 8 ↔ freeB A b) → ∀ l3, k (nI m') l3 μ) → wP_openOverflow_14 (nI b) k (d + 1) (nI m) (nI c) μ := by
  intro d
  have e8 : (nI b + 1) * 8 = nI (8 * b + 8) := by
    rw [nI_1, li_8, nI_mul]
    congr 1
    omega
  induction d with
  | zero =>
    intro c m hc hbc hm hiff h
    unfold wP_openOverflow_14
    rw [e8, nI_leI (by omega) (by omega)]
    refine ⟨fun _ => h m (by omega) ?_ _, fun q => absurd (by omega) q⟩
    have : c = 8 * b + 8 := by omega
    subst this
    constructor
    · intro q l q1 q2
      exact hiff.mp (by omega) l q1 q2
    · intro q
      have := hiff.mpr q
      omega
  | succ d ih =>
    intro c m hc hbc hm hiff h
    unfold wP_openOverflow_14
    rw [e8, nI_leI (by omega) (by omega), nI_1, nI_1]
    refine ⟨fun q => absurd q (by omega), fun _ => ?_⟩
    refine c_isFree (by omega) hL hP (fun hp => ⟨fun h => absurd h (by decide), fun _ => ih (c + 1) (m + 1) (by omega) (by omega) (by omega) ?_ h⟩) (fun hp => ⟨fun _ => ih (c + 1) m (by omega) (by omega) (by omega) ?_ h, fun h => absurd rfl h⟩)
    · constructor
      · intro q l q1 q2
        by_cases e : l = c
        · subst e; exact hp
        · exact hiff.mp (by omega) l q1 (by omega)
      · intro q
        have := hiff.mpr (fun l q1 q2 => q l q1 (by omega))
        omega
    · constructor
      · intro q
        omega
      · intro q
        exact absurd (q c hbc (by omega)) hp
theorem c_ovf_loop {k post : Int32 → Mem → Prop} {μ : Mem} {A : Gs} (hL : Lay μ) (hP : PR μ A) : ∀ (d c : Nat), c + d = 4 → (∀ j, lst (freeB A) d c = some j → post 1 (opn μ 8 (8 * j) (8 * j + 8))) → (lst (freeB A) d c = none → k (nI 4) μ) → wP_openOverflow_2 k post (d + 1) (nI c) μ := by
  intro d
  induction d with
  | zero =>
    intro c hc h1 h0
    have : c = 4 := by omega
    subst this
    unfold wP_openOverflow_2
    exact ⟨fun _ => h0 rfl, fun h => absurd (show (4 : Int32) ≤ nI 4 by decide) h⟩
  | succ d ih =>
    intro c hc h1 h0
    unfold wP_openOverflow_2
    have e8 : nI c * 8 = nI (8 * c) := by rw [li_8, nI_mul, Nat.mul_comm]
    have e9 : (nI c + 1) * 8 = nI (8 * c + 8) := by
      rw [nI_1, li_8, nI_mul]
      congr 1
      omega
    rw [e9, e8, nI_1]
    refine ⟨fun h => ?_, fun _ => ⟨9, ?_⟩⟩
    · exfalso
      rw [li_4, nI_leI (by omega) (by omega)] at h
      omega
    · refine c_cnt_loop (b := c) (by omega) hL hP 8 (8 * c) 0 (by omega) (by omega) (by omega) ⟨fun _ l q1 q2 => by omega, fun _ => by omega⟩ (fun m hm hiff l3 => ?_)
      rw [li_8, nI_eq (by omega) (by omega)]
      refine ⟨fun q => ?_, fun q => ih (c + 1) (by omega) ?_ ?_⟩
      · exact c_open (by omega) (by omega) (lay_ok hL rfl) (h1 c (lst_hit (hiff.mp q)))
      · intro j hj
        exact h1 j ((lst_miss (fun z => q (hiff.mpr z))).trans hj)
      · intro hj
        exact h0 ((lst_miss (fun z => q (hiff.mpr z))).trans hj)
