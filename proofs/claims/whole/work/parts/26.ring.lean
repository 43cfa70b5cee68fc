/-! Rows of objects, roots, fields: the class's writes -/
def clS (r : Nat) : Prop := ¬ (17 ≤ r ∧ r ≤ 34)
def cmS (r : Nat) : Prop := r ≤ 8 ∨ 35 ≤ r
theorem cm_cl : ∀ r, cmS r → clS r := fun r h => by unfold cmS at h; unfold clS; omega
def moS (r : Nat) : Prop := 17 ≤ r ∧ r ≤ 33
def rgS (x r : Nat) : Prop := r = x ∨ r = x + 1
theorem moS_out {r : Nat} (h : moS r) : outS r := by unfold moS at h; unfold outS; omega
theorem MR.byC {μ μ1 : Mem} {s : St} (h : MR μ s) (hF : Fr clS μ μ1) : MR μ1 s := h.frame (fun r hr => (hF.2.2 r (by unfold clS; omega)).1)
theorem CR.byM {μ μ1 : Mem} {s : St} {ι : Nat → Nat} {d : Int32} {P : Nat → Prop} (h : CR μ s ι d P) (hF : Fr moS μ μ1) : CR μ1 s ι d P := h.frame (hF.mono (fun _ h => moS_out h))
theorem ring_add {x : Nat} {v : Option Nat} {ι : Nat → Nat} {l : List (Option Nat)} {post : Mem → Prop} {μ : Mem} (h : ringR μ ι x l) (ho : okO μ x 4) (ho1 : okO μ (x + 1) 22) (hl : mL μ (x + 1) = 262) (hlen : l.length < 262) (hv : ∀ y, v = some y → okO μ (ι y) 5)
    (hp : ∀ μ1, ringR μ1 ι x (l ++ [v]) → Fr (rgS x) μ μ1 → post μ1) : wW_add x (v.map ι) post μ := by
  obtain ⟨f, hf, e1, e2, e3, e4⟩ := h
  have em : (nI f + nI l.length) - (nI f + nI l.length) / 262 * 262 = nI ((f + l.length) % 262) := by
    rw [nI_add]
    exact nI_rem (b := 262) (by omega) (by omega)
  have hm : (f + l.length) % 262 < 262 := Nat.mod_lt _ (by decide)
  unfold wW_add
  rw [e1, e2, em, hl, nI_clamp (by omega)]
  refine ⟨ho, fun q => ?_, fun _ => ⟨ho1, (nI_vp (by omega)).mpr hm, ?_, ?_⟩⟩
  · exfalso
    rw [li_262, nI_leI (by omega) (by omega)] at q
    omega
  · intro y hy
    cases v with
    | none => cases hy
    | some w =>
      cases hy
      exact hv w rfl
  · intro μ4 e4' μ6 e6
    subst e4'; subst e6
    refine hp _ ⟨f, hf, ?_, ?_, ?_, ?_⟩ ?_
    · rw [mI_no (by omega), mI_sR]; exact e1
    · rw [mI_sI_self, mI_sR, e2, nI_1, List.length_append]
      rfl
    · rw [List.length_append]
      exact hlen
    · intro k w hk
      rw [mR_sI, mR_sR]
      by_cases e : k = l.length
      · subst e
        rw [if_pos ⟨rfl, rfl⟩]
        rw [List.getElem?_append_right (Nat.le_refl _)] at hk
        simp at hk
        rw [hk]
      · have hlt : k < l.length := by
          have := (List.getElem?_eq_some_iff.mp hk).1
          rw [List.length_append] at this
          simp at this
          omega
        rw [List.getElem?_append_left hlt] at hk
        rw [if_neg (fun z => by have := z.2; omega)]
        exact e4 k w hk
    · exact (Fr.sR (S := rgS x) (Or.inr rfl)).trans (Fr.sI (Or.inl rfl))
theorem ring_take {x : Nat} {v : Option Nat} {ι : Nat → Nat} {l : List (Option Nat)} {post : Option Nat → Mem → Prop} {μ : Mem} (h : ringR μ ι x (v :: l)) (ho : okO μ x 4) (ho1 : okO μ (x + 1) 22) (hl : mL μ (x + 1) = 262)
    (hp : ∀ μ1, ringR μ1 ι x l → Fr (rgS x) μ μ1 → post (v.map ι) μ1) : wW_takeFirst x post μ := by
  obtain ⟨f, hf, e1, e2, e3, e4⟩ := h
  have e3' : l.length + 1 ≤ 262 := e3
  have e2' : mI μ x 2 = nI (l.length + 1) := e2
  have em : (nI f + 1) - (nI f + 1) / 262 * 262 = nI ((f + 1) % 262) := by
    rw [nI_1]
    exact nI_rem (b := 262) (by omega) (by omega)
  have h0 := e4 0 v rfl
  rw [show (f + 0) % 262 = f by omega] at h0
  unfold wW_takeFirst
  rw [e1, e2', em, hl, nI_clamp (by omega)]
  refine ⟨ho, fun q => ?_, fun _ => ⟨ho1, (nI_vp (by omega)).mpr hf, ?_⟩⟩
  · exfalso
    rw [li_0, nI_eq (by omega) (by omega)] at q
    omega
  · intro e4' he4 μ5 e5 μ6 e6
    subst he4; subst e5; subst e6
    rw [h0]
    refine hp _ ⟨(f + 1) % 262, Nat.mod_lt _ (by decide), ?_, ?_, by omega, ?_⟩ ?_
    · rw [mI_no (by omega), mI_sI_self]
    · rw [mI_sI_self, mI_no (by omega), e2', li_1, nI_sub (by omega)]
      rfl
    · intro k w hk
      rw [mR_sI, mR_sI]
      have := e4 (k + 1) w hk
      have e : ((f + 1) % 262 + k) % 262 = (f + (k + 1)) % 262 := by omega
      rw [e]
      exact this
    · exact (Fr.sI (S := rgS x) (Or.inl rfl)).trans (Fr.sI (Or.inl rfl))
theorem ring_get {x k : Nat} {v : Option Nat} {ι : Nat → Nat} {l : List (Option Nat)} {post : Option Nat → Mem → Prop} {μ : Mem} (h : ringR μ ι x l) (ho : okO μ x 4) (ho1 : okO μ (x + 1) 22) (hl : mL μ (x + 1) = 262) (hk : l[k]? = some v)
    (hp : post (v.map ι) μ) : wW_get x (nI k) post μ := by
  obtain ⟨f, hf, e1, e2, e3, e4⟩ := h
  have hlt := (List.getElem?_eq_some_iff.mp hk).1
  have em : (nI f + nI k) - (nI f + nI k) / 262 * 262 = nI ((f + k) % 262) := by
    rw [nI_add]
    exact nI_rem (b := 262) (by omega) (by omega)
  have hm : (f + k) % 262 < 262 := Nat.mod_lt _ (by decide)
  unfold wW_get
  rw [e1, e2, em, hl, nI_clamp (by omega), nI_leI (by omega) (by omega)]
  refine ⟨fun q => absurd q (nI_pos (by omega)), fun _ => ⟨ho, fun q => absurd q (by omega), fun _ => ⟨ho1, (nI_vp (by omega)).mpr hm, ?_⟩⟩⟩
  intro e he
  subst he
  rw [e4 k v hk]
  exact hp
theorem ring_clear {x : Nat} {ι : Nat → Nat} {post : Mem → Prop} {μ : Mem} (ho : okO μ x 4) (hp : ∀ μ1, ringR μ1 ι x [] → Fr (rgS x) μ μ1 → post μ1) : wW_clear x post μ := by
  unfold wW_clear
  refine ⟨ho, ?_⟩
  intro μ2 e2 μ3 e3
  subst e2; subst e3
  refine hp _ ⟨0, by omega, ?_, ?_, by simp, ?_⟩ ((Fr.sI (S := rgS x) (Or.inl rfl)).trans (Fr.sI (Or.inl rfl)))
  · rw [mI_no (by omega), mI_sI_self]; rfl
  · rw [mI_sI_self]; rfl
  · intro k w hk
    simp at hk
theorem ring_count {x y : Nat} {ι : Nat → Nat} {l : List (Option Nat)} {μ : Mem} (h : ringR μ ι x l) (ho : okO μ x 4) (ho1 : okO μ (x + 1) 22) (hl : mL μ (x + 1) = 262) (hinj : ∀ z, some z ∈ l → ι z = ι y → z = y) {k : Int32 → Int32 → Mem → Prop} :
    ∀ (e c m : Nat), c + e = l.length → (∀ l3, k (nI (m + (l.drop c).count (some y))) l3 μ) → wW_countOf_4 x (ι y) k (e + 1) (nI m) (nI c) μ := by
  obtain ⟨f, hf, e1, e2, e3, e4⟩ := h
  intro e
  induction e with
  | zero =>
    intro c m hc hk
    unfold wW_countOf_4
    rw [e1, e2, nI_leI (by omega) (by omega)]
    refine ⟨ho, fun _ => ?_, fun q => absurd (by omega) q⟩
    have : l.drop c = [] := List.drop_eq_nil_of_le (by omega)
    rw [this] at hk
    exact hk _
  | succ e ih =>
    intro c m hc hk
    have hlt : c < l.length := by omega
    have em : (nI f + nI c) - (nI f + nI c) / 262 * 262 = nI ((f + c) % 262) := by
      rw [nI_add]
      exact nI_rem (b := 262) (by omega) (by omega)
    have hm : (f + c) % 262 < 262 := Nat.mod_lt _ (by decide)
    have hg : l[c]? = some l[c] := List.getElem?_eq_getElem hlt
    rw [List.drop_eq_getElem_cons hlt, List.count_cons] at hk
    unfold wW_countOf_4
    rw [e1, e2, nI_leI (by omega) (by omega), em, hl, nI_clamp (by omega), nI_1, nI_1]
    refine ⟨ho, fun q => absurd q (by omega), fun _ => ⟨ho1, (nI_vp (by omega)).mpr hm, ?_⟩⟩
    intro v hv
    rw [e4 c _ hg] at hv
    subst hv
    generalize hz : l[c] = z at hk
    have hmem : z ∈ l := hz ▸ List.getElem_mem hlt
    refine ⟨fun q => ih (c + 1) (m + 1) (by omega) (fun l3 => ?_), fun q => ih (c + 1) m (by omega) (fun l3 => ?_)⟩
    · cases z with
      | none => cases q
      | some w =>
        have : w = y := hinj w hmem (Option.some.inj q)
        subst this
        have h2 := hk l3
        simp at h2
        rw [show m + (List.count (some w) (List.drop (c + 1) l) + 1) = m + 1 + List.count (some w) (List.drop (c + 1) l) by omega] at h2
        exact h2
    · have : ¬ z = some y := fun e => q (by rw [e]; rfl)
      have h2 := hk l3
      rw [if_neg (by simpa using this)] at h2
      exact h2
/-- the waiting row has changed -/
theorem CR.wrow {μ μ1 : Mem} {s : St} {ι : Nat → Nat} {d : Int32} {P : Nat → Prop} {l : List Nat} (h : CR μ s ι d P) (hF : Fr (rgS 13) μ μ1) (hr : ringR μ1 ι 13 (l.map some)) : CR μ1 (urow s l) ι d P := by
  have f : ∀ r, r ≠ 13 → r ≠ 14 → mI μ1 r = mI μ r ∧ mR μ1 r = mR μ r := fun r h1 h2 => hF.2.2 r (by unfold rgS; omega)
  refine h.mk hF (fun x hx => ?_) ?_ ?_ ?_ ?_ hr ?_ ?_ ?_ ?_ ?_
  · have hi := h.it x hx
    have h35 := hi.i35
    exact hi.frame hF (f _ (by omega) (by omega)).1 (f _ (by omega) (by omega)).2 (f _ (by omega) (by omega)).1 rfl rfl rfl rfl rfl rfl rfl
  · rw [(f 3 (by omega) (by omega)).2]; exact h.pat
  · rw [(f 1 (by omega) (by omega)).2]; exact h.prt
  · rw [(f 2 (by omega) (by omega)).2]; exact h.pbf
  · exact h.pl.frame (fun r hr => (f r (by omega) (by omega)).1)
  · exact h.plo.frame (f 9 (by omega) (by omega)).1 (f 10 (by omega) (by omega)).2 (f 11 (by omega) (by omega)).1 (f 12 (by omega) (by omega)).2
  · rw [(f 0 (by omega) (by omega)).1]; exact h.ptr
  · rw [(f 0 (by omega) (by omega)).1]; exact h.pps
  · rw [(f 0 (by omega) (by omega)).1]; exact h.pmv
  · rw [(f 0 (by omega) (by omega)).1]; exact h.pwh
theorem rg_cl {x : Nat} (hx : x < 16) : ∀ r, rgS x r → clS r := fun r h => by unfold rgS at h; unfold clS; omega
theorem c_wait {y : Nat} {post : Mem → Prop} {μ : Mem} {s : St} {ι : Nat → Nat} {d : Int32} {P : Nat → Prop} (h : CR μ s ι d P) (hy : P y) (hlen : (row s).length < 262) (hp : ∀ μ1, CR μ1 (urow s (row s ++ [y])) ι d P → Fr clS μ μ1 → post μ1) : wW_add 13 (some (ι y)) post μ := by
  refine ring_add (v := some y) h.wt (lay_ok h.lay rfl) (lay_ok h.lay rfl) (h.lay.2 14 _ rfl).2 (by rw [List.length_map]; exact hlen) ?_ ?_
  · intro z hz
    cases hz
    exact (h.it y hy).o
  · intro μ1 hr hF
    refine hp μ1 (h.wrow hF ?_) (hF.mono (rg_cl (by omega)))
    rw [List.map_append]
    exact hr
theorem c_take {y : Nat} {l : List Nat} {post : Option Nat → Mem → Prop} {μ : Mem} {s : St} {ι : Nat → Nat} {d : Int32} {P : Nat → Prop} (h : CR μ s ι d P) (hrow : row s = y :: l) (hp : ∀ μ1, CR μ1 (urow s l) ι d P → Fr clS μ μ1 → post (some (ι y)) μ1) : wW_takeFirst 13 post μ := by
  have hw := h.wt
  rw [hrow] at hw
  exact ring_take (v := some y) (l := l.map some) hw (lay_ok h.lay rfl) (lay_ok h.lay rfl) (h.lay.2 14 _ rfl).2 (fun μ1 hr hF => hp μ1 (h.wrow hF hr) (hF.mono (rg_cl (by omega))))
