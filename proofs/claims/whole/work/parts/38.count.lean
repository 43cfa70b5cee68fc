/-! Objects counted: over addresses, over numbers -/
theorem li_256' : (256 : Int32) = nI 256 := rfl
def wG (s : St) (x : Nat) : Nat := if co s x = 1 then 1 else 0
def gN (s : St) : Nat := sm (fun x => if sta s x = 2 ∧ co s x = 1 then 1 else 0) 256
def wY (s : St) (x : Nat) : Nat := if ct s x = 0 then 1 else 0
/-- counts and colours of the living: young and old -/
def Ag (s : St) : Prop := ∀ x, sta s x ≠ 0 → (sta s x = 1 ∧ ct s x = 0 ∧ co s x = 0) ∨ (sta s x = 2 ∧ 1 ≤ ct s x)
theorem m_greys_loop {μ : Mem} {s : St} (h : MR μ s) (hb : Bd s) {K : Int32 → Int32 → Mem → Prop} : ∀ (e k : Nat), k + e = 256 → (∀ v, K (nI (gN s)) v μ) → wM_greys_4 K (e + 1) (nI (sm (fun x => if sta s x = 2 ∧ co s x = 1 then 1 else 0) k)) (nI k) μ := by
  intro e
  induction e with
  | zero =>
    intro k hk hp
    have : k = 256 := by omega
    subst this
    unfold wM_greys_4
    rw [li_256, nI_leI (by omega) (by omega)]
    exact ⟨fun _ => hp _, fun q => absurd (Nat.le_refl _) q⟩
  | succ e ih =>
    intro k hk hp
    have b1 := hb.1 k
    have b3 := hb.2.2.1 k
    have hs := sm_s (fun x => if sta s x = 2 ∧ co s x = 1 then 1 else 0) k
    unfold wM_greys_4
    rw [li_256, nI_leI (by omega) (by omega), nI_clamp (by omega), h.psta k (by omega), h.pco k (by omega), li_2, li_1, nI_eq (by omega) (by omega), nI_eq (by omega) (by omega), nI_add, nI_add]
    have i := ih (k + 1) (by omega) hp
    rw [hs] at i
    refine ⟨fun q => absurd q (by omega), fun _ => ⟨(nI_vp (by omega)).mpr (by omega), fun q => ⟨fun w => ?_, fun w => ?_⟩, fun q => ?_⟩⟩
    · rw [if_pos ⟨q, w⟩] at i; exact i
    · rw [if_neg (fun z => w z.2)] at i; exact i
    · rw [if_neg (fun z => q z.1)] at i; exact i
theorem m_greys {μ : Mem} {s : St} {post : Int32 → Mem → Prop} (h : MR μ s) (hb : Bd s) (hp : post (nI (gN s)) μ) : wM_greys post μ := by
  unfold wM_greys
  exact ⟨257, m_greys_loop h hb 256 0 (by omega) (fun _ => hp)⟩
theorem wAt_none {s : St} {w : Nat → Nat} {a : Nat} (h : obj s a = none) : wAt s w a = 0 := by
  unfold wAt
  rw [h]
theorem wAt_some {s : St} {w : Nat → Nat} {a x : Nat} (h : obj s a = some x) : wAt s w a = w x := by
  unfold wAt
  rw [h]
theorem c_countGrey_loop {μ : Mem} {s : St} {ι : Nat → Nat} {d : Int32} (h : CR μ s ι d (lv s)) (hw : Wf s) (hb : Bd s) {K : Int32 → Int32 → Mem → Prop} : ∀ (e k : Nat), k + e = 128 → (∀ v, K (nI (sm (wAt s (wG s)) 128)) v μ) → wC_countGrey_13 128 K (e + 1) (nI (sm (wAt s (wG s)) k)) (nI k) μ := by
  intro e
  induction e with
  | zero =>
    intro k hk hp
    have : k = 128 := by omega
    subst this
    unfold wC_countGrey_13
    rw [li_128, nI_leI (by omega) (by omega)]
    exact ⟨fun _ => hp _, fun q => absurd (Nat.le_refl _) q⟩
  | succ e ih =>
    intro k hk hp
    have i := ih (k + 1) (by omega) hp
    rw [sm_s] at i
    unfold wC_countGrey_13
    rw [li_128, nI_leI (by omega) (by omega), nI_clamp (by omega), h.pat k (by omega), li_1, nI_add, nI_add]
    refine ⟨fun q => absurd q (by omega), fun _ => ⟨(nI_vp (by omega)).mpr (by omega), ?_⟩⟩
    intro e2 he2
    cases ho : obj s k with
    | none =>
      rw [ho] at he2
      subst he2
      rw [wAt_none ho] at i
      exact ⟨fun _ => i, fun y hy => (by cases hy)⟩
    | some x =>
      rw [ho] at he2
      subst he2
      rw [wAt_some ho] at i
      refine ⟨fun q => (by cases q), fun y hy => ?_⟩
      have : ι x = y := Option.some.inj hy
      subst this
      have hx := (obj_live hw ho).1
      have hi := h.it x hx
      have b3 := hb.2.2.1 x
      rw [hi.pco, nI_eq (by omega) (by omega)]
      unfold wG at i
      refine ⟨hi.o, fun q => ?_, fun q => ?_⟩
      · rw [if_pos q] at i; exact i
      · rw [if_neg q] at i; exact i
theorem gN_at {s : St} (hw : Wf s) (ha : Ag s) : sm (wAt s (wG s)) 128 = gN s := by
  rw [sum_at hw]
  refine sm_congr (fun x _ => ?_)
  unfold wLv wG
  by_cases e : sta s x = 0
  · rw [if_pos e, if_neg (fun z => by have := z.1; omega)]
  · rw [if_neg e]
    rcases ha x e with ⟨q1, q2, q3⟩ | ⟨q1, q2⟩
    · rw [if_neg (by omega), if_neg (fun z => by have := z.1; omega)]
    · by_cases w : co s x = 1
      · rw [if_pos w, if_pos ⟨q1, w⟩]
      · rw [if_neg w, if_neg (fun z => w z.2)]
theorem c_countGrey {μ : Mem} {s : St} {ι : Nat → Nat} {d : Int32} {post : Int32 → Mem → Prop} (h : CR μ s ι d (lv s)) (hw : Wf s) (hb : Bd s) (ha : Ag s) (hp : post (nI (gN s)) μ) : wC_countGrey post μ := by
  unfold wC_countGrey
  refine ⟨129, c_countGrey_loop h hw hb 128 0 (by omega) (fun _ => ?_)⟩
  rw [gN_at hw ha]
  exact hp
theorem c_countItems_loop {μ : Mem} {s : St} {ι : Nat → Nat} {d : Int32} (h : CR μ s ι d (lv s)) {K : Int32 → Int32 → Mem → Prop} : ∀ (e k : Nat), k + e = 128 → (∀ v, K (nI (sm (wAt s (fun _ => 1)) 128)) v μ) → wC_countItems_13 128 K (e + 1) (nI (sm (wAt s (fun _ => 1)) k)) (nI k) μ := by
  intro e
  induction e with
  | zero =>
    intro k hk hp
    have : k = 128 := by omega
    subst this
    unfold wC_countItems_13
    rw [li_128, nI_leI (by omega) (by omega)]
    exact ⟨fun _ => hp _, fun q => absurd (Nat.le_refl _) q⟩
  | succ e ih =>
    intro k hk hp
    have i := ih (k + 1) (by omega) hp
    rw [sm_s] at i
    unfold wC_countItems_13
    rw [li_128, nI_leI (by omega) (by omega), nI_clamp (by omega), h.pat k (by omega), li_1, nI_add, nI_add]
    refine ⟨fun q => absurd q (by omega), fun _ => ⟨(nI_vp (by omega)).mpr (by omega), ?_⟩⟩
    intro e2 he2
    cases ho : obj s k with
    | none =>
      rw [ho] at he2
      subst he2
      rw [wAt_none ho] at i
      exact ⟨fun _ => i, fun y hy => (by cases hy)⟩
    | some x =>
      rw [ho] at he2
      subst he2
      rw [wAt_some ho] at i
      exact ⟨fun q => (by cases q), fun y hy => i⟩
theorem c_countYoung_loop {μ : Mem} {s : St} {ι : Nat → Nat} {d : Int32} (h : CR μ s ι d (lv s)) (hw : Wf s) (hb : Bd s) {K : Int32 → Int32 → Mem → Prop} : ∀ (e k : Nat), k + e = 128 → (∀ v, K (nI (sm (wAt s (wY s)) 128)) v μ) → wC_countYoung_13 128 K (e + 1) (nI (sm (wAt s (wY s)) k)) (nI k) μ := by
  intro e
  induction e with
  | zero =>
    intro k hk hp
    have : k = 128 := by omega
    subst this
    unfold wC_countYoung_13
    rw [li_128, nI_leI (by omega) (by omega)]
    exact ⟨fun _ => hp _, fun q => absurd (Nat.le_refl _) q⟩
  | succ e ih =>
    intro k hk hp
    have i := ih (k + 1) (by omega) hp
    rw [sm_s] at i
    unfold wC_countYoung_13
    rw [li_128, nI_leI (by omega) (by omega), nI_clamp (by omega), h.pat k (by omega), li_1, nI_add, nI_add]
    refine ⟨fun q => absurd q (by omega), fun _ => ⟨(nI_vp (by omega)).mpr (by omega), ?_⟩⟩
    intro e2 he2
    cases ho : obj s k with
    | none =>
      rw [ho] at he2
      subst he2
      rw [wAt_none ho] at i
      exact ⟨fun _ => i, fun y hy => (by cases hy)⟩
    | some x =>
      rw [ho] at he2
      subst he2
      rw [wAt_some ho] at i
      refine ⟨fun q => (by cases q), fun y hy => ?_⟩
      have : ι x = y := Option.some.inj hy
      subst this
      have hx := (obj_live hw ho).1
      have hi := h.it x hx
      unfold wY at i
      refine ⟨hi.o, c_isOld hi (hb.2.1 x) (fun q => ⟨fun w => absurd w (by decide), fun _ => ?_⟩) (fun q => ⟨fun _ => ?_, fun w => absurd rfl w⟩)⟩
      · rw [if_neg (by omega)] at i; exact i
      · rw [if_pos q] at i; exact i
