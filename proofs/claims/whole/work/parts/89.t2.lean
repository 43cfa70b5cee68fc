/-! The beginning: both constructors run, and the law is kept -/
def m0 : Mem := (0, fun _ => 0, fun _ => 0, fun _ _ => 0, fun _ _ => none)
def Zm (μ : Mem) (N : Nat) (E : Nat → Nat → Int32) (R : Nat → Nat → Option Nat) (K F : Nat → Nat) : Prop := mN μ = N ∧ (∀ r j, mI μ r j = E r j) ∧ (∀ r j, mR μ r j = R r j) ∧ (∀ r, mK μ r = K r) ∧ ∀ r, mL μ r = F r
theorem Zm.ok {μ : Mem} {N : Nat} {E : Nat → Nat → Int32} {R : Nat → Nat → Option Nat} {K F : Nat → Nat} (h : Zm μ N E R K F) {r k : Nat} (h1 : r < N) (h2 : K r = k) : okO μ r k := ⟨by rw [h.1]; exact h1, by rw [h.2.2.2.1]; exact h2⟩
theorem z_newA {μ μ' : Mem} {N : Nat} {E : Nat → Nat → Int32} {R : Nat → Nat → Option Nat} {K F : Nat → Nat} (h : Zm μ N E R K F) {k n m : Nat} (e : μ' = newA μ k m) (em : m = n) (hE : ∀ j, E N j = 0) (hR : ∀ j, R N j = none) : Zm μ' (N + 1) E R (up K N k) (up F N n) := by
  obtain ⟨h1, h2, h3, h4, h5⟩ := h
  subst e; subst em
  refine ⟨by rw [mN_newA, h1], fun r j => ?_, fun r j => ?_, fun r => ?_, fun r => ?_⟩
  · rw [mI_newA, h1]
    split
    · rename_i q; rw [q, hE]
    · exact h2 r j
  · rw [mR_newA, h1]
    split
    · rename_i q; rw [q, hR]
    · exact h3 r j
  · rw [mK_newA, h1, h4]; rfl
  · rw [mL_newA, h1, h5]; rfl
theorem z_newO {μ μ' : Mem} {N : Nat} {E : Nat → Nat → Int32} {R : Nat → Nat → Option Nat} {K F : Nat → Nat} (h : Zm μ N E R K F) {k : Nat} (e : μ' = newO μ k) (hE : ∀ j, E N j = 0) (hR : ∀ j, R N j = none) : Zm μ' (N + 1) E R (up K N k) F := by
  obtain ⟨h1, h2, h3, h4, h5⟩ := h
  subst e
  refine ⟨by rw [mN_newO, h1], fun r j => ?_, fun r j => ?_, fun r => ?_, fun r => ?_⟩
  · rw [mI_newO, h1]
    split
    · rename_i q; rw [q, hE]
    · exact h2 r j
  · rw [mR_newO, h1]
    split
    · rename_i q; rw [q, hR]
    · exact h3 r j
  · rw [mK_newO, h1, h4]; rfl
  · rw [mL_newO, h5]
theorem z_sR {μ μ' : Mem} {N : Nat} {E : Nat → Nat → Int32} {R : Nat → Nat → Option Nat} {K F : Nat → Nat} (h : Zm μ N E R K F) {x j : Nat} {v : Option Nat} (e : μ' = sR μ x j v) : Zm μ' N E (up2 R x j v) K F := by
  obtain ⟨h1, h2, h3, h4, h5⟩ := h
  subst e
  refine ⟨h1, h2, fun r i => ?_, h4, h5⟩
  rw [mR_sR, h3]
  rfl
theorem z_sI {μ μ' : Mem} {N : Nat} {E : Nat → Nat → Int32} {R : Nat → Nat → Option Nat} {K F : Nat → Nat} (h : Zm μ N E R K F) {x j : Nat} {v : Int32} (e : μ' = sI μ x j v) : Zm μ' N (up2 E x j v) R K F := by
  obtain ⟨h1, h2, h3, h4, h5⟩ := h
  subst e
  refine ⟨h1, fun r i => ?_, h3, h4, h5⟩
  rw [mI_sI, h2]
  rfl
theorem z_fin {μ μ' : Mem} {N : Nat} {E : Nat → Nat → Int32} {R : Nat → Nat → Option Nat} {K F : Nat → Nat} (h : Zm μ N E R K F) {r k : Nat} (e : μ' = finO μ r k) : Zm μ' N E R (up K r k) F := by
  obtain ⟨h1, h2, h3, h4, h5⟩ := h
  subst e
  refine ⟨h1, h2, h3, fun x => ?_, h5⟩
  rw [mK_finO, h4]
  rfl
theorem z_E {μ : Mem} {N : Nat} {E E' : Nat → Nat → Int32} {R : Nat → Nat → Option Nat} {K F : Nat → Nat} (h : Zm μ N E R K F) (e : ∀ r j, E r j = E' r j) : Zm μ N E' R K F := ⟨h.1, fun r j => (h.2.1 r j).trans (e r j), h.2.2⟩
def shpB (ci r : Nat) (f : Nat → Option Nat) : Bool := (shp ci).zipIdx.all (fun q => match q.1 with
  | none => true
  | some d => f q.2 == some (r + d))
theorem shp_all {ci r : Nat} {f : Nat → Option Nat} (h : shpB ci r f = true) : ∀ j d, (shp ci)[j]? = some (some d) → f j = some (r + d) := by
  intro j d hj
  have hm : (some d, j) ∈ (shp ci).zipIdx := by
    rw [List.mem_zipIdx_iff_getElem?]
    exact hj
  have := (List.all_eq_true.mp h) _ hm
  simpa using this
theorem z_finOk {μ : Mem} {N : Nat} {E : Nat → Nat → Int32} {R : Nat → Nat → Option Nat} {K F : Nat → Nat} (h : Zm μ N E R K F) {r ci : Nat} (h1 : r < N) (h2 : K r = 40 + ci) (h3 : shpB ci r (R r) = true) : finOk μ r ci := ⟨h.ok h1 h2, fun j d hj => by rw [h.2.2.1]; exact shp_all h3 j d hj⟩
def E18 (E : Nat → Nat → Int32) (k : Nat) : Nat → Nat → Int32 := fun r j => if r = 18 ∧ j < k then -1 else E r j
theorem E18_s (E : Nat → Nat → Int32) (k r j : Nat) : up2 (E18 E k) 18 k (-1) r j = E18 E (k + 1) r j := by
  unfold up2 E18
  by_cases e : r = 18 ∧ j = k
  · rw [if_pos e, if_pos ⟨e.1, by omega⟩]
  · rw [if_neg e]
    by_cases q : r = 18 ∧ j < k
    · rw [if_pos q, if_pos ⟨q.1, by omega⟩]
    · rw [if_neg q, if_neg (fun z => ?_)]
      by_cases w : j = k
      · exact e ⟨z.1, w⟩
      · exact q ⟨z.1, by omega⟩
theorem i162 {N : Nat} {E : Nat → Nat → Int32} {R : Nat → Nat → Option Nat} {K F : Nat → Nat} (h17 : 18 < N) (k1 : K 17 = 6) (k2 : K 18 = 20) (f1 : F 18 = 128) {k : Int32 → Mem → Prop} : ∀ (e c : Nat) (μ : Mem), c + e = 128 → Zm μ N (E18 E c) R K F → (∀ μ1, Zm μ1 N (E18 E 128) R K F → ∀ v, k v μ1) → wM_init_162 17 k (e + 1) (nI c) μ := by
  intro e
  induction e with
  | zero =>
    intro c μ hc h hp
    have : c = 128 := by omega
    subst this
    unfold wM_init_162
    rw [li_128, nI_leI (by omega) (by omega)]
    exact ⟨fun _ => hp μ h _, fun q => absurd (Nat.le_refl _) q⟩
  | succ e ih =>
    intro c μ hc h hp
    unfold wM_init_162
    rw [li_128, nI_leI (by omega) (by omega), nI_clamp (by omega), nI_1]
    refine ⟨fun q => absurd q (by omega), fun _ => ⟨h.ok (by omega) k1, h.ok h17 k2, ?_, ?_⟩⟩
    · rw [h.2.2.2.2 18, f1]
      exact (nI_vp (by omega)).mpr (by omega)
    · intro μ56 e56
      exact ih (c + 1) μ56 (by omega) (z_E (z_sI h e56) (E18_s E c)) hp
def E27 (E : Nat → Nat → Int32) (k : Nat) : Nat → Nat → Int32 := fun r j => if (r = 27 ∨ r = 28) ∧ j < k then -1 else E r j
theorem E27_s (E : Nat → Nat → Int32) (k r j : Nat) : up2 (up2 (E27 E k) 27 k (-1)) 28 k (-1) r j = E27 E (k + 1) r j := by
  unfold up2 E27
  by_cases e : r = 28 ∧ j = k
  · rw [if_pos e, if_pos ⟨Or.inr e.1, by omega⟩]
  · rw [if_neg e]
    by_cases e2 : r = 27 ∧ j = k
    · rw [if_pos e2, if_pos ⟨Or.inl e2.1, by omega⟩]
    · rw [if_neg e2]
      by_cases q : (r = 27 ∨ r = 28) ∧ j < k
      · rw [if_pos q, if_pos ⟨q.1, by omega⟩]
      · rw [if_neg q, if_neg (fun z => ?_)]
        by_cases w : j = k
        · rcases z.1 with y | y
          · exact e2 ⟨y, w⟩
          · exact e ⟨y, w⟩
        · exact q ⟨z.1, by omega⟩
theorem i184 {N : Nat} {E : Nat → Nat → Int32} {R : Nat → Nat → Option Nat} {K F : Nat → Nat} (h17 : 28 < N) (k1 : K 17 = 6) (k2 : K 27 = 20) (k3 : K 28 = 20) (f1 : F 27 = 6) (f2 : F 28 = 6) {k : Int32 → Mem → Prop} : ∀ (e c : Nat) (μ : Mem), c + e = 6 → Zm μ N (E27 E c) R K F → (∀ μ1, Zm μ1 N (E27 E 6) R K F → ∀ v, k v μ1) → wM_init_184 17 k (e + 1) (nI c) μ := by
  intro e
  induction e with
  | zero =>
    intro c μ hc h hp
    have : c = 6 := by omega
    subst this
    unfold wM_init_184
    rw [li_6, nI_leI (by omega) (by omega)]
    exact ⟨fun _ => hp μ h _, fun q => absurd (Nat.le_refl _) q⟩
  | succ e ih =>
    intro c μ hc h hp
    unfold wM_init_184
    rw [li_6, nI_leI (by omega) (by omega), nI_clamp (by omega), nI_1]
    refine ⟨fun q => absurd q (by omega), fun _ => ⟨h.ok (by omega) k1, h.ok (by omega) k2, ?_, ?_⟩⟩
    · rw [h.2.2.2.2 27, f1]
      exact (nI_vp (by omega)).mpr (by omega)
    · intro μ62 e62
      have z62 := z_sI h e62
      refine ⟨z62.ok h17 k3, ?_, ?_⟩
      · rw [z62.2.2.2.2 28, f2]
        exact (nI_vp (by omega)).mpr (by omega)
      · intro μ65 e65
        exact ih (c + 1) μ65 (by omega) (z_E (z_sI z62 e65) (E27_s E c)) hp
def s0 : St := ((fun _ _ _ => 0), (fun k _ _ => if k = 3 then some 0 else none), (fun k _ _ => if k = 1 then -1 else if k = 4 then -1 else if k = 6 then -1 else 0), [], [])
theorem ok_s0 : Ok s0 := by
  have hsta : ∀ x, sta s0 x = 0 := fun _ => rfl
  have hcel : ∀ j, cel s0 j = none := fun _ => rfl
  have hrt : ∀ r, rt s0 r = none := fun _ => rfl
  have hbf : ∀ r, bf s0 r = none := fun _ => rfl
  refine ⟨⟨fun _ _ => none, fun _ => False, fun _ => False, ⟨⟨fun x hx => absurd (hsta x) hx, fun j x hj => (by rw [hcel] at hj; cases hj), ⟨⟨fun l _ => Or.inl rfl, Or.inl rfl, Or.inl rfl⟩, fun q => absurd rfl q, fun j _ => hcel j⟩, fun _ => Nat.zero_le _⟩, ⟨fun _ => Nat.zero_le _, fun _ => Nat.zero_le _, fun _ => Nat.zero_le _, Nat.zero_le _⟩, fun x hx => absurd (hsta x) hx, ?_, fun x hx => (by cases hx)⟩, ⟨fun x i hx => ?_, fun x i o hm => (by cases hm), fun x i hx => ?_, List.nodup_nil, fun x i hx => ?_⟩, ⟨fun x i y hx => ?_, fun y hy => ?_⟩, ⟨fun y hy => hy.elim, fun r y _ e => ?_, fun x i y hx => hx.elim, fun y hy => hy.elim, fun r y _ e => ?_, fun x i y hx => ?_⟩, fun _ x hx => ?_, fun q => absurd rfl q⟩, rfl, fun _ => rfl⟩
  · have : osz s0 = 0 := sm_zero (fun x _ => if_neg (by rw [hsta]; omega))
    rw [this]
    show 0 + 0 ≤ 262
    omega
  · rw [hsta] at hx; omega
  · rw [hsta] at hx; omega
  · rw [hsta] at hx; omega
  · rw [hsta] at hx; omega
  · rw [hsta] at hy; omega
  · rw [hbf] at e; cases e
  · rw [hrt] at e; cases e
  · rcases hx with q | q
    · exact q.elim
    · rw [hsta] at q; omega
  · rw [hsta] at hx; omega
theorem lay_all {K F : Nat → Nat} (h : (layKs.zipIdx.all (fun q => K q.2 == q.1.1 && F q.2 == q.1.2)) = true) : ∀ (r : Nat) (q : Nat × Nat), layKs[r]? = some q → K r = q.1 ∧ F r = q.2 := by
  intro r q hq
  have hm : (q, r) ∈ layKs.zipIdx := by
    rw [List.mem_zipIdx_iff_getElem?]
    exact hq
  have := (List.all_eq_true.mp h) _ hm
  simpa using this
/-- the beginning's memory is the empty state -/
theorem rel_s0 {μ : Mem} {N : Nat} {E : Nat → Nat → Int32} {R : Nat → Nat → Option Nat} {K F : Nat → Nat} (h : Zm μ N E R K F) (hL : Lay μ) (h18 : ∀ j, j < 128 → E 18 j = -1) (h27 : ∀ j, j < 6 → E 27 j = -1) (h28 : ∀ j, j < 6 → E 28 j = -1)
    (hz : ∀ r j, r = 5 ∨ r = 6 ∨ (19 ≤ r ∧ r ≤ 26) ∨ r = 29 → E r j = 0) (h0 : ∀ j, E 0 j = 0) (h7 : ∀ j, E 7 j = 0) (h8 : ∀ j, E 8 j = 0) (h9 : E 9 3 = 0) (h13 : ∀ j, E 13 j = 0) (h4 : E 4 4 = -1) (c13 : E 17 13 = -1) (c16 : E 17 16 = -1) (c19 : E 17 19 = -1) (cz : ∀ j, j = 10 ∨ j = 14 ∨ j = 15 ∨ j = 17 ∨ j = 21 ∨ j = 24 ∨ j = 27 ∨ j = 28 ∨ j = 29 ∨ j = 30 → E 17 j = 0)
    (hR : ∀ r j, r = 1 ∨ r = 2 ∨ r = 3 → R r j = none) : Rel μ s0 := by
  have e := h.2.1
  refine ⟨ok_s0, by show 0 < 256; omega, ⟨fun j hj => (e 18 j).trans (h18 j hj), fun x _ => (e 19 x).trans (hz 19 x (by omega)), fun x _ => (e 20 x).trans (hz 20 x (by omega)), fun x _ => (e 21 x).trans (hz 21 x (by omega)), fun x _ => (e 22 x).trans (hz 22 x (by omega)), fun x _ => (e 23 x).trans (hz 23 x (by omega)), fun x _ => (e 24 x).trans (hz 24 x (by omega)), fun x i _ _ => (e 25 _).trans (hz 25 _ (by omega)), fun x i _ _ => (e 26 _).trans (hz 26 _ (by omega)), (e 17 10).trans (cz 10 (by omega)), fun r hr => (e 27 r).trans (h27 r hr), fun r hr => (e 28 r).trans (h28 r hr), (e 17 13).trans c13, (e 17 14).trans (cz 14 (by omega)), (e 17 15).trans (cz 15 (by omega)), (e 17 16).trans c16, (e 17 17).trans (cz 17 (by omega)), (e 17 19).trans c19, fun l _ => (e 29 l).trans (hz 29 l (by omega)), (e 17 21).trans (cz 21 (by omega)), fun k x hk => (by cases hk), (e 17 24).trans (cz 24 (by omega)), fun k x i o hk => (by cases hk), (e 17 27).trans (cz 27 (by omega)), (e 17 28).trans (cz 28 (by omega)), (e 17 29).trans (cz 29 (by omega)), (e 17 30).trans (cz 30 (by omega))⟩, fun x => x, ?_⟩
  have ob : ∀ a, obj s0 a = none := fun _ => rfl
  have nl : ∀ x, ¬ lv s0 x := fun x q => q rfl
  have g := h.2.2.1
  refine ⟨hL, fun x hx => absurd hx (nl x), fun x y hx => absurd hx (nl x), fun a _ => ?_, fun r _ => ?_, fun r _ => ?_, ⟨fun l _ => ?_, fun l _ => ⟨(e 6 l).trans (hz 6 l (by omega)), Or.inl rfl⟩, (e 4 4).trans h4, Or.inl ⟨rfl, (e 7 0).trans (h7 0), (e 7 1).trans (h7 1), (e 7 2).trans (h7 2)⟩, Or.inl ⟨rfl, (e 8 0).trans (h8 0), (e 8 1).trans (h8 1), (e 8 2).trans (h8 2)⟩⟩, ⟨0, by omega, (e 13 1).trans (h13 1), (e 13 2).trans (h13 2), Nat.zero_le _, fun k v hk => ?_⟩, ⟨(e 9 3).trans h9, Nat.zero_le _, fun k x i o hk => ?_⟩, (e 0 7).trans (h0 7), ?_, (e 0 9).trans (h0 9), (e 0 10).trans (h0 10)⟩
  · rw [g, hR 3 a (by omega), ob]; rfl
  · rw [g, hR 1 r (by omega)]; rfl
  · rw [g, hR 2 r (by omega)]; rfl
  · rw [e, hz 5 l (by omega)]
    have n1 : ¬ (0 : Int32) ≤ -1 := by decide
    have o0 : ∀ j, ow (pg s0) j = 0 := fun j => if_neg n1
    unfold cntL
    rw [o0, o0, o0, o0]
    rfl
  · have hk' : (([] : List Nat).map some)[k]? = some v := hk
    simp at hk'
  · have hk' : ([] : List (Nat × Nat × Option Nat))[k]? = some (x, i, o) := hk
    simp at hk'
  · rw [e, h0]
    decide
theorem t2_law (L : Nat) (xs : Nat → Int32) (hL : L ≤ 2048) : wL_start (fun v1 v2 v3 μ => v1 = 0 ∧ v2 = 17 ∧ v3 = 34 ∧ Lay μ ∧ ∃ n, n ≤ 514 ∧ wL_law_23 L xs (fun _ _ => True) (fun v _ => v = 1) n 0 μ) m0 := by
  have z0 : Zm m0 0 (fun _ _ => 0) (fun _ _ => none) (fun _ => 0) (fun _ => 0) := ⟨rfl, fun _ _ => rfl, fun _ _ => rfl, fun _ => rfl, fun _ => rfl⟩
  unfold wL_start
  intro y1 μ1 ey1 eμ1
  have z1 := z_newO z0 eμ1 (fun _ => rfl) (fun _ => rfl)
  have ey1 : y1 = 0 := ey1.trans z0.1
  subst ey1
  unfold wC_init
  intro y2 μ2 ey2 eμ2
  have z2 := z_newA z1 eμ2 (nI_clamp (n := 6) (by omega)) (fun _ => rfl) (fun _ => rfl)
  have ey2 : y2 = 1 := ey2.trans z1.1
  subst ey2
  refine ⟨z2.ok (by omega) rfl, ?_⟩
  intro μ3 eμ3
  have z3 := z_sR z2 eμ3
  intro y4 μ4 ey4 eμ4
  have z4 := z_newA z3 eμ4 (nI_clamp (n := 6) (by omega)) (fun _ => rfl) (fun _ => rfl)
  have ey4 : y4 = 2 := ey4.trans z3.1
  subst ey4
  intro μ5 eμ5
  have z5 := z_sR z4 eμ5
  intro y6 μ6 ey6 eμ6
  have z6 := z_newA z5 eμ6 (nI_clamp (n := 128) (by omega)) (fun _ => rfl) (fun _ => rfl)
  have ey6 : y6 = 3 := ey6.trans z5.1
  subst ey6
  intro μ7 eμ7
  have z7 := z_sR z6 eμ7
  intro y8 μ8 ey8 eμ8
  have z8 := z_newO z7 eμ8 (fun _ => rfl) (fun _ => rfl)
  have ey8 : y8 = 4 := ey8.trans z7.1
  subst ey8
  unfold wP_init
  intro y9 μ9 ey9 eμ9
  have z9 := z_newA z8 eμ9 (nI_clamp (n := 32) (by omega)) (fun _ => rfl) (fun _ => rfl)
  have ey9 : y9 = 5 := ey9.trans z8.1
  subst ey9
  refine ⟨z9.ok (by omega) rfl, ?_⟩
  intro μ10 eμ10
  have z10 := z_sR z9 eμ10
  intro y11 μ11 ey11 eμ11
  have z11 := z_newA z10 eμ11 (nI_clamp (n := 32) (by omega)) (fun _ => rfl) (fun _ => rfl)
  have ey11 : y11 = 6 := ey11.trans z10.1
  subst ey11
  intro μ12 eμ12
  have z12 := z_sR z11 eμ12
  intro y13 μ13 ey13 eμ13
  have z13 := z_newO z12 eμ13 (fun _ => rfl) (fun _ => rfl)
  have ey13 : y13 = 7 := ey13.trans z12.1
  subst ey13
  unfold wS_init
  refine ⟨z_finOk z13 (by omega) rfl rfl, ?_⟩
  intro μ14 eμ14
  have z14 := z_fin z13 eμ14
  refine ⟨z14.ok (by omega) rfl, ?_⟩
  intro μ15 eμ15
  have z15 := z_sR z14 eμ15
  intro y16 μ16 ey16 eμ16
  have z16 := z_newO z15 eμ16 (fun _ => rfl) (fun _ => rfl)
  have ey16 : y16 = 8 := ey16.trans z15.1
  subst ey16
  refine ⟨z_finOk z16 (by omega) rfl rfl, ?_⟩
  intro μ17 eμ17
  have z17 := z_fin z16 eμ17
  refine ⟨z17.ok (by omega) rfl, ?_⟩
  intro μ18 eμ18
  have z18 := z_sR z17 eμ18
  intro μ19 eμ19
  have z19 := z_sI z18 eμ19
  refine ⟨z_finOk z19 (by omega) rfl rfl, ?_⟩
  intro μ20 eμ20
  have z20 := z_fin z19 eμ20
  refine ⟨z20.ok (by omega) rfl, ?_⟩
  intro μ21 eμ21
  have z21 := z_sR z20 eμ21
  intro y22 μ22 ey22 eμ22
  have z22 := z_newO z21 eμ22 (fun _ => rfl) (fun _ => rfl)
  have ey22 : y22 = 9 := ey22.trans z21.1
  subst ey22
  unfold wG_init
  intro y23 μ23 ey23 eμ23
  have z23 := z_newA z22 eμ23 (nI_clamp (n := 128) (by omega)) (fun _ => rfl) (fun _ => rfl)
  have ey23 : y23 = 10 := ey23.trans z22.1
  subst ey23
  refine ⟨z23.ok (by omega) rfl, ?_⟩
  intro μ24 eμ24
  have z24 := z_sR z23 eμ24
  intro y25 μ25 ey25 eμ25
  have z25 := z_newA z24 eμ25 (nI_clamp (n := 128) (by omega)) (fun _ => rfl) (fun _ => rfl)
  have ey25 : y25 = 11 := ey25.trans z24.1
  subst ey25
  intro μ26 eμ26
  have z26 := z_sR z25 eμ26
  intro y27 μ27 ey27 eμ27
  have z27 := z_newA z26 eμ27 (nI_clamp (n := 128) (by omega)) (fun _ => rfl) (fun _ => rfl)
  have ey27 : y27 = 12 := ey27.trans z26.1
  subst ey27
  intro μ28 eμ28
  have z28 := z_sR z27 eμ28
  refine ⟨z_finOk z28 (by omega) rfl rfl, ?_⟩
  intro μ29 eμ29
  have z29 := z_fin z28 eμ29
  refine ⟨z29.ok (by omega) rfl, ?_⟩
  intro μ30 eμ30
  have z30 := z_sR z29 eμ30
  intro y31 μ31 ey31 eμ31
  have z31 := z_newO z30 eμ31 (fun _ => rfl) (fun _ => rfl)
  have ey31 : y31 = 13 := ey31.trans z30.1
  subst ey31
  unfold wW_init
  intro y32 μ32 ey32 eμ32
  have z32 := z_newA z31 eμ32 (nI_clamp (n := 262) (by omega)) (fun _ => rfl) (fun _ => rfl)
  have ey32 : y32 = 14 := ey32.trans z31.1
  subst ey32
  refine ⟨z32.ok (by omega) rfl, ?_⟩
  intro μ33 eμ33
  have z33 := z_sR z32 eμ33
  refine ⟨z_finOk z33 (by omega) rfl rfl, ?_⟩
  intro μ34 eμ34
  have z34 := z_fin z33 eμ34
  refine ⟨z34.ok (by omega) rfl, ?_⟩
  intro μ35 eμ35
  have z35 := z_sR z34 eμ35
  intro y36 μ36 ey36 eμ36
  have z36 := z_newO z35 eμ36 (fun _ => rfl) (fun _ => rfl)
  have ey36 : y36 = 15 := ey36.trans z35.1
  subst ey36
  intro y37 μ37 ey37 eμ37
  have z37 := z_newA z36 eμ37 (nI_clamp (n := 262) (by omega)) (fun _ => rfl) (fun _ => rfl)
  have ey37 : y37 = 16 := ey37.trans z36.1
  subst ey37
  refine ⟨z37.ok (by omega) rfl, ?_⟩
  intro μ38 eμ38
  have z38 := z_sR z37 eμ38
  refine ⟨z_finOk z38 (by omega) rfl rfl, ?_⟩
  intro μ39 eμ39
  have z39 := z_fin z38 eμ39
  refine ⟨z39.ok (by omega) rfl, ?_⟩
  intro μ40 eμ40
  have z40 := z_sR z39 eμ40
  refine ⟨z_finOk z40 (by omega) rfl rfl, ?_⟩
  intro μ41 eμ41
  have z41 := z_fin z40 eμ41
  intro y42 μ42 ey42 eμ42
  have z42 := z_newO z41 eμ42 (fun _ => rfl) (fun _ => rfl)
  have ey42 : y42 = 17 := ey42.trans z41.1
  subst ey42
  unfold wM_init
  intro y43 μ43 ey43 eμ43
  have z43 := z_newA z42 eμ43 (nI_clamp (n := 128) (by omega)) (fun _ => rfl) (fun _ => rfl)
  have ey43 : y43 = 18 := ey43.trans z42.1
  subst ey43
  refine ⟨z43.ok (by omega) rfl, ?_⟩
  intro μ44 eμ44
  have z44 := z_sR z43 eμ44
  intro y45 μ45 ey45 eμ45
  have z45 := z_newA z44 eμ45 (nI_clamp (n := 256) (by omega)) (fun _ => rfl) (fun _ => rfl)
  have ey45 : y45 = 19 := ey45.trans z44.1
  subst ey45
  intro μ46 eμ46
  have z46 := z_sR z45 eμ46
  intro y47 μ47 ey47 eμ47
  have z47 := z_newA z46 eμ47 (nI_clamp (n := 256) (by omega)) (fun _ => rfl) (fun _ => rfl)
  have ey47 : y47 = 20 := ey47.trans z46.1
  subst ey47
  intro μ48 eμ48
  have z48 := z_sR z47 eμ48
  intro y49 μ49 ey49 eμ49
  have z49 := z_newA z48 eμ49 (nI_clamp (n := 256) (by omega)) (fun _ => rfl) (fun _ => rfl)
  have ey49 : y49 = 21 := ey49.trans z48.1
  subst ey49
  intro μ50 eμ50
  have z50 := z_sR z49 eμ50
  intro y51 μ51 ey51 eμ51
  have z51 := z_newA z50 eμ51 (nI_clamp (n := 256) (by omega)) (fun _ => rfl) (fun _ => rfl)
  have ey51 : y51 = 22 := ey51.trans z50.1
  subst ey51
  intro μ52 eμ52
  have z52 := z_sR z51 eμ52
  intro y53 μ53 ey53 eμ53
  have z53 := z_newA z52 eμ53 (nI_clamp (n := 256) (by omega)) (fun _ => rfl) (fun _ => rfl)
  have ey53 : y53 = 23 := ey53.trans z52.1
  subst ey53
  intro μ54 eμ54
  have z54 := z_sR z53 eμ54
  intro y55 μ55 ey55 eμ55
  have z55 := z_newA z54 eμ55 (nI_clamp (n := 256) (by omega)) (fun _ => rfl) (fun _ => rfl)
  have ey55 : y55 = 24 := ey55.trans z54.1
  subst ey55
  intro μ56 eμ56
  have z56 := z_sR z55 eμ56
  intro y57 μ57 ey57 eμ57
  have z57 := z_newA z56 eμ57 (nI_clamp (n := 3072) (by omega)) (fun _ => rfl) (fun _ => rfl)
  have ey57 : y57 = 25 := ey57.trans z56.1
  subst ey57
  intro μ58 eμ58
  have z58 := z_sR z57 eμ58
  intro y59 μ59 ey59 eμ59
  have z59 := z_newA z58 eμ59 (nI_clamp (n := 3072) (by omega)) (fun _ => rfl) (fun _ => rfl)
  have ey59 : y59 = 26 := ey59.trans z58.1
  subst ey59
  intro μ60 eμ60
  have z60 := z_sR z59 eμ60
  intro y61 μ61 ey61 eμ61
  have z61 := z_newA z60 eμ61 (nI_clamp (n := 6) (by omega)) (fun _ => rfl) (fun _ => rfl)
  have ey61 : y61 = 27 := ey61.trans z60.1
  subst ey61
  intro μ62 eμ62
  have z62 := z_sR z61 eμ62
  intro y63 μ63 ey63 eμ63
  have z63 := z_newA z62 eμ63 (nI_clamp (n := 6) (by omega)) (fun _ => rfl) (fun _ => rfl)
  have ey63 : y63 = 28 := ey63.trans z62.1
  subst ey63
  intro μ64 eμ64
  have z64 := z_sR z63 eμ64
  intro μ65 eμ65
  have z65 := z_sI z64 eμ65
  intro μ66 eμ66
  have z66 := z_sI z65 eμ66
  intro y67 μ67 ey67 eμ67
  have z67 := z_newA z66 eμ67 (nI_clamp (n := 32) (by omega)) (fun _ => rfl) (fun _ => rfl)
  have ey67 : y67 = 29 := ey67.trans z66.1
  subst ey67
  intro μ68 eμ68
  have z68 := z_sR z67 eμ68
  intro μ69 eμ69
  have z69 := z_sI z68 eμ69
  intro y70 μ70 ey70 eμ70
  have z70 := z_newA z69 eμ70 (nI_clamp (n := 700) (by omega)) (fun _ => rfl) (fun _ => rfl)
  have ey70 : y70 = 30 := ey70.trans z69.1
  subst ey70
  intro μ71 eμ71
  have z71 := z_sR z70 eμ71
  intro y72 μ72 ey72 eμ72
  have z72 := z_newA z71 eμ72 (nI_clamp (n := 160) (by omega)) (fun _ => rfl) (fun _ => rfl)
  have ey72 : y72 = 31 := ey72.trans z71.1
  subst ey72
  intro μ73 eμ73
  have z73 := z_sR z72 eμ73
  intro y74 μ74 ey74 eμ74
  have z74 := z_newA z73 eμ74 (nI_clamp (n := 160) (by omega)) (fun _ => rfl) (fun _ => rfl)
  have ey74 : y74 = 32 := ey74.trans z73.1
  subst ey74
  intro μ75 eμ75
  have z75 := z_sR z74 eμ75
  intro y76 μ76 ey76 eμ76
  have z76 := z_newA z75 eμ76 (nI_clamp (n := 400) (by omega)) (fun _ => rfl) (fun _ => rfl)
  have ey76 : y76 = 33 := ey76.trans z75.1
  subst ey76
  intro μ77 eμ77
  have z77 := z_sR z76 eμ77
  refine ⟨z_finOk z77 (by omega) rfl rfl, ?_⟩
  intro μ78 eμ78
  have z78 := z_fin z77 eμ78
  refine ⟨129, i162 (by omega) rfl rfl rfl 128 0 _ (by omega) (z_E z78 (fun r j => (if_neg (fun q => by omega)).symm)) (fun μa za v => ⟨7, i184 (by omega) rfl rfl rfl rfl rfl 6 0 _ (by omega) (z_E za (fun r j => (if_neg (fun q => by omega)).symm)) (fun μb zb' v2 => ?_)⟩)⟩
  intro yz μz eyz eμz
  have zz := z_newA zb' eμz (nI_clamp (n := 1) (by omega)) (fun _ => rfl) (fun _ => rfl)
  have eyz : yz = 34 := eyz.trans zb'.1
  subst eyz
  have hLay : Lay μz := by
    refine ⟨by rw [zz.1]; omega, fun r q hq => ?_⟩
    rw [zz.2.2.2.1 r, zz.2.2.2.2 r]
    exact lay_all (by decide +kernel) r q hq
  have hR : Rel μz s0 := by
    refine rel_s0 zz hLay (fun j hj => (if_neg (fun q => by omega)).trans (if_pos ⟨rfl, hj⟩)) (fun j hj => if_pos ⟨Or.inl rfl, hj⟩) (fun j hj => if_pos ⟨Or.inr rfl, hj⟩) (fun r j hr => ?_) (fun _ => rfl) (fun _ => rfl) (fun _ => rfl) rfl (fun _ => rfl) rfl rfl rfl rfl (fun j hj => ?_) (fun r j hr => ?_)
    · have : r = 5 ∨ r = 6 ∨ r = 19 ∨ r = 20 ∨ r = 21 ∨ r = 22 ∨ r = 23 ∨ r = 24 ∨ r = 25 ∨ r = 26 ∨ r = 29 := by omega
      rcases this with e | e | e | e | e | e | e | e | e | e | e <;> (subst e; rfl)
    · rcases hj with e | e | e | e | e | e | e | e | e | e <;> (subst e; rfl)
    · rcases hr with e | e | e <;> (subst e; rfl)
  refine ⟨rfl, rfl, rfl, hLay, L / 4 + 1, by omega, ?_⟩
  exact law_loop hL (fun _ _ => trivial) (L / 4 + 1) 0 μz s0 hR (by omega) (by omega)
