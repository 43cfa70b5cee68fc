/-! What holds between the calls -/
def fc (f : Nat → Option Nat) (y n : Nat) : Nat := sm (fun i => if f i = some y then 1 else 0) n
theorem fc_pos {f : Nat → Option Nat} {y n i : Nat} (hi : i < n) (h : f i = some y) : 1 ≤ fc f y n := by
  have := sm_mem (f := fun i => if f i = some y then 1 else 0) hi
  rw [if_pos h] at this
  exact this
theorem fc_zero {f : Nat → Option Nat} {y n : Nat} (h : ∀ i, i < n → f i ≠ some y) : fc f y n = 0 := sm_zero (fun i hi => if_neg (h i hi))
theorem fc_congr {f g : Nat → Option Nat} {y n : Nat} (h : ∀ i, i < n → f i = g i) : fc f y n = fc g y n := sm_congr (fun i hi => by rw [h i hi])
theorem fc_s (f : Nat → Option Nat) (y n : Nat) : fc f y (n + 1) = fc f y n + (if f n = some y then 1 else 0) := rfl
theorem fc_ex {f : Nat → Option Nat} {y n : Nat} (h : fc f y n ≠ 0) : ∃ i, i < n ∧ f i = some y := by
  by_cases e : ∃ i, i < n ∧ f i = some y
  · exact e
  · exact absurd (fc_zero (fun i hi q => e ⟨i, hi, q⟩)) h
theorem fc_count (f : Nat → Option Nat) (y n : Nat) : ((List.range n).filterMap f).count y = fc f y n := by
  induction n with
  | zero => rfl
  | succ n ih =>
    rw [List.range_succ, List.filterMap_append, List.count_append, ih, fc_s]
    cases e : f n with
    | none => simp [e]
    | some z =>
      by_cases w : z = y
      · simp [e, w]
      · simp [e, w]
theorem fc_countM (f : Nat → Option Nat) (y n : Nat) : ((List.range n).map f).count (some y) = fc f y n := by
  induction n with
  | zero => rfl
  | succ n ih =>
    rw [List.range_succ, List.map_append, List.count_append, ih, fc_s]
    cases e : f n with
    | none => simp [e]
    | some z =>
      by_cases w : z = y
      · simp [e, w]
      · simp [e, w]
/-- fields of the old that hold y -/
def hG (s : St) (g : Nat → Nat → Option Nat) (y : Nat) : Nat := sm (fun x => if sta s x = 2 then fc (g x) y (sz s x) else 0) 256
def osz (s : St) : Nat := sm (fun x => if sta s x = 2 then sz s x else 0) 256
def Hn (s : St) (β : Nat → Option Nat) (g : Nat → Nat → Option Nat) (y : Nat) : Nat := fc β y 6 + hG s g y + (row s).count y
def I0 (s : St) : Prop := Wf s ∧ Bd s ∧ Ag s ∧ (row s).length + osz s ≤ 262 ∧ ∀ x, x ∈ row s → sta s x = 2
def IG (s : St) (g : Nat → Nat → Option Nat) (S : Nat → Prop) : Prop := (∀ x i, sta s x = 2 → i < sz s x → lg s x i = 0 → fl s x i = g x i) ∧ (∀ x i o, (x, i, o) ∈ log s → S x ∧ i < sz s x ∧ lg s x i = 1 ∧ o = g x i) ∧
  (∀ x i, sta s x = 2 → i < sz s x → lg s x i ≠ 0 → (x, i, g x i) ∈ log s) ∧ ((log s).map (fun e => (e.1, e.2.1))).Nodup ∧ ∀ x i, sta s x = 1 → lg s x i = 0
def IC (s : St) (β : Nat → Option Nat) (g : Nat → Nat → Option Nat) : Prop := (∀ x i y, sta s x = 2 → i < sz s x → g x i = some y → sta s y = 2) ∧ ∀ y, sta s y = 2 → ct s y < 3 → Hn s β g y = ct s y
def IS (s : St) (β : Nat → Option Nat) (g : Nat → Nat → Option Nat) (S : Nat → Prop) : Prop := (∀ y, S y → sta s y = 2) ∧ (∀ r y, r < 6 → β r = some y → S y) ∧ (∀ x i y, S x → i < sz s x → g x i = some y → S y) ∧
  (∀ y, S y → (∃ r, r < 6 ∧ β r = some y) ∨ ∃ x i, S x ∧ i < sz s x ∧ g x i = some y) ∧ (∀ r y, r < 6 → rt s r = some y → S y ∨ sta s y = 1) ∧ ∀ x i y, (S x ∨ sta s x = 1) → i < sz s x → fl s x i = some y → S y ∨ sta s y = 1
/-- C takes in what a grey, a logged field or one of its own white ones leads to -/
def clsd (s : St) (g : Nat → Nat → Option Nat) (T C : Nat → Prop) : Prop := ∀ x i y, sta s x = 2 → i < sz s x → g x i = some y → (lg s x i = 1 ∨ co s x = 1 ∨ (C x ∧ isW s x ∧ T x)) → C y
def IT (s : St) (g : Nat → Nat → Option Nat) (S T : Nat → Prop) : Prop := (tr s = 0 → ∀ x, sta s x = 2 → co s x = 0) ∧ (tr s ≠ 0 → (∀ x, T x → sta s x = 2) ∧ (∀ x, sta s x = 2 → co s x ≠ 0 → T x) ∧ (∀ x, S x → T x) ∧ (∀ x i y, T x → i < sz s x → g x i = some y → T y) ∧
  ∀ C, clsd s g T C → ∀ y, T y → isW s y → C y)
def Inv (s : St) (β : Nat → Option Nat) : Prop := ∃ g S T, I0 s ∧ IG s g S ∧ IC s β g ∧ IS s β g S ∧ IT s g S T
theorem hG_mem {s : St} {g : Nat → Nat → Option Nat} {x i y : Nat} (hx : x < 256) (h2 : sta s x = 2) (hi : i < sz s x) (h : g x i = some y) : 1 ≤ hG s g y := by
  have := sm_mem (f := fun x => if sta s x = 2 then fc (g x) y (sz s x) else 0) hx
  rw [if_pos h2] at this
  have := fc_pos hi h
  unfold hG
  omega
theorem hG_rm {s t : St} {g : Nat → Nat → Option Nat} {x : Nat} (hx : x < 256) (h2 : sta s x = 2) (e1 : sta t = up (sta s) x 0) (e2 : sz t = sz s) (y : Nat) : hG t g y + fc (g x) y (sz s x) = hG s g y := by
  have h := sm_up (f := fun x => if sta s x = 2 then fc (g x) y (sz s x) else 0) (v := 0) hx
  rw [if_pos h2, Nat.add_zero] at h
  unfold hG
  rw [e1, e2]
  rw [sm_congr (g := up (fun x => if sta s x = 2 then fc (g x) y (sz s x) else 0) x 0)]
  · exact h
  · intro z _
    by_cases e : z = x
    · subst e
      rw [up_self, up_self]
      exact if_neg (by omega)
    · rw [up_ne e, up_ne e]
theorem osz_rm {s t : St} {x : Nat} (hx : x < 256) (h2 : sta s x = 2) (e1 : sta t = up (sta s) x 0) (e2 : sz t = sz s) : osz t + sz s x = osz s := by
  have h := sm_up (f := fun x => if sta s x = 2 then sz s x else 0) (v := 0) hx
  rw [if_pos h2, Nat.add_zero] at h
  unfold osz
  rw [e1, e2]
  rw [sm_congr (g := up (fun x => if sta s x = 2 then sz s x else 0) x 0)]
  · exact h
  · intro z _
    by_cases e : z = x
    · subst e
      rw [up_self, up_self]
      exact if_neg (by omega)
    · rw [up_ne e, up_ne e]
theorem hlds_count (s : St) (x y k : Nat) : (hlds s x k).count y = fc (fl s x) y k := fc_count (fl s x) y k
theorem hG_same {s t : St} {g : Nat → Nat → Option Nat} {y : Nat} (e1 : sta t = sta s) (e2 : sz t = sz s) : hG t g y = hG s g y := by
  unfold hG
  rw [e1, e2]
theorem osz_same {s t : St} (e1 : sta t = sta s) (e2 : sz t = sz s) : osz t = osz s := by
  unfold osz
  rw [e1, e2]
/-- an object that waits with a count of 1 is held by nothing else -/
theorem lone {s : St} {β : Nat → Option Nat} {g : Nat → Nat → Option Nat} {S : Nat → Prop} {x : Nat} {l : List Nat} (hw : Wf s) (hC : IC s β g) (hS : IS s β g S) (hrow : row s = x :: l) (h2 : sta s x = 2) (h1 : ct s x = 1) :
    (∀ r, r < 6 → β r ≠ some x) ∧ (∀ y i, sta s y = 2 → i < sz s y → g y i ≠ some x) ∧ x ∉ l ∧ ¬ S x := by
  have hH := hC.2 x h2 (by omega)
  unfold Hn at hH
  rw [hrow, List.count_cons_self, h1] at hH
  have k1 : ∀ r, r < 6 → β r ≠ some x := by
    intro r hr e
    have := fc_pos hr e
    omega
  have k2 : ∀ y i, sta s y = 2 → i < sz s y → g y i ≠ some x := by
    intro y i hy hi e
    have := hG_mem (hw.lt (by omega)) hy hi e
    omega
  refine ⟨k1, k2, fun hm => ?_, fun q => ?_⟩
  · have := List.count_pos_iff.mpr hm
    omega
  · rcases hS.2.2.2.1 x q with ⟨r, hr, e⟩ | ⟨y, i, hy, hi, e⟩
    · exact k1 r hr e
    · exact k2 y i (hS.1 y hy) hi e
/-- an old object out of S has its fields as they were -/
theorem unlogged {s : St} {g : Nat → Nat → Option Nat} {S : Nat → Prop} {x i : Nat} (hG : IG s g S) (h2 : sta s x = 2) (hn : ¬ S x) (hi : i < sz s x) : lg s x i = 0 ∧ fl s x i = g x i := by
  by_cases e : lg s x i = 0
  · exact ⟨e, hG.1 x i h2 hi e⟩
  · exact absurd (hG.2.1 _ _ _ (hG.2.2.1 x i h2 hi e)).1 hn
theorem inv_gdD {s : St} {β : Nat → Option Nat} (h : Inv s β) : gdD s := by
  obtain ⟨g, S, T, ⟨hw, hb, ha, hl, hr⟩, hG, hC, hS, hT⟩ := h
  refine ⟨hw, hb, by omega, fun x l hrow => ?_⟩
  have h2 : sta s x = 2 := hr x (by rw [hrow]; exact List.mem_cons_self)
  have hc : 1 ≤ ct s x := by
    rcases ha x (by omega) with ⟨w, -⟩ | ⟨-, w⟩
    · omega
    · exact w
  refine ⟨h2, hc, fun h1 => ?_⟩
  obtain ⟨k1, k2, k3, k4⟩ := lone hw hC hS hrow h2 h1
  have hx := hw.lt (show sta s x ≠ 0 by omega)
  have ho := sm_mem (f := fun x => if sta s x = 2 then sz s x else 0) hx
  rw [if_pos h2] at ho
  have ho' : sz s x ≤ osz s := ho
  rw [hrow, List.length_cons] at hl
  refine ⟨by omega, fun i y hi hf => ?_⟩
  have hg : g x i = some y := by rw [← (unlogged hG h2 k4 hi).2]; exact hf
  have hy := hC.1 x i y h2 hi hg
  refine ⟨fun e => k2 x i h2 hi (by rw [hg, e]), by omega, fun _ => hy, fun _ => ?_⟩
  rcases ha y (by omega) with ⟨w, -⟩ | ⟨-, w⟩
  · omega
  · exact w
