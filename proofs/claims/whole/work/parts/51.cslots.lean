/-! The slots counted: both sides -/
noncomputable def cs1 (s : St) (v : Option Nat) : St := match v with
  | none => s
  | some x => if sta s x = 1 then sv s x else uct s (up (ct s) x (if ct s x < 3 then ct s x + 1 else 3))
def nsl (s : St) (v : Option Nat) : List (Option Nat) := match v with
  | none => []
  | some x => if sta s x = 1 then fL s x (sz s x) else []
def ny (s : St) (v : Option Nat) : Nat := match v with
  | none => 0
  | some x => if sta s x = 1 then 1 else 0
noncomputable def csN : Nat → St → List (Option Nat) → Nat → St × Nat
  | 0, s, _, n => (s, n)
  | _ + 1, s, [], n => (s, n)
  | f + 1, s, v :: l, n => csN f (cs1 s v) (l ++ nsl s v) (n + ny s v)
def csE : Nat → St → List (Option Nat) → Prop
  | 0, _, r => r = []
  | _ + 1, _, [] => True
  | f + 1, s, v :: l => csE f (cs1 s v) (l ++ nsl s v)
def gdC (s : St) (rest : List (Option Nat)) (N : Nat) : Prop := Wf s ∧ Bd s ∧ Ag s ∧ N ≤ 262 ∧ (∀ x, some x ∈ rest → sta s x ≠ 0) ∧ (∀ x i y, sta s x ≠ 0 → i < sz s x → fl s x i = some y → sta s y ≠ 0) ∧ ∀ x l, rest = some x :: l → sta s x = 1 → N + sz s x ≤ 262
theorem csN_nil (f : Nat) (s : St) (n : Nat) : csN f s [] n = (s, n) := by
  cases f <;> rfl
theorem mid {α : Type} (a : List α) (v : α) (l : List α) : (a ++ v :: l)[a.length]? = some v := by
  rw [List.getElem?_append_right (Nat.le_refl _), Nat.sub_self]
  rfl
theorem m_cs_loop {J : St → List (Option Nat) → Nat → Prop} (hJ : ∀ s rest N, J s rest N → gdC s rest N ∧ ∀ v l, rest = v :: l → J (cs1 s v) (l ++ nsl s v) (N + (nsl s v).length)) {K : Int32 → Int32 → Mem → Prop} : ∀ (f : Nat) (done rest : List (Option Nat)) (s : St) (n : Nat) (μ : Mem), J s rest (done ++ rest).length → csE f s rest → MR μ s → slM μ s (done ++ rest) →
    (∀ μ1, MR μ1 (csN f s rest n).1 → Fr moS μ μ1 → ∀ v, K (nI (csN f s rest n).2) v μ1) → wM_countSlots_57 K (f + 1) (nI n) (nI done.length) μ := by
  have m23 : moS 23 := by unfold moS; omega
  have fin : ∀ (f : Nat) (done : List (Option Nat)) (s : St) (n : Nat) (μ : Mem), J s [] (done ++ []).length → MR μ s → slM μ s (done ++ []) → (∀ μ1, MR μ1 (csN f s [] n).1 → Fr moS μ μ1 → ∀ v, K (nI (csN f s [] n).2) v μ1) → wM_countSlots_57 K (f + 1) (nI n) (nI done.length) μ := by
    intro f done s n μ hj hM hS h
    obtain ⟨hg, -⟩ := hJ _ _ _ hj
    have hN := hg.2.2.2.1
    rw [List.append_nil] at hS hN
    rw [csN_nil] at h
    unfold wM_countSlots_57
    rw [hS.1, nI_leI (by omega) (by omega)]
    exact ⟨fun _ => h μ hM (Fr.refl μ) _, fun q => absurd (Nat.le_refl _) q⟩
  intro f
  induction f with
  | zero =>
    intro done rest s n μ hj he hM hS h
    have : rest = [] := he
    subst this
    exact fin 0 done s n μ hj hM hS h
  | succ f ih =>
    intro done rest s n μ hj he hM hS h
    cases rest with
    | nil => exact fin (f + 1) done s n μ hj hM hS h
    | cons v l =>
      obtain ⟨⟨hw, hb, ha, hN, hlive, hf, hy⟩, hnext⟩ := hJ _ _ _ hj
      have hnx := hnext v l rfl
      have hlen : done.length + (l.length + 1) ≤ 262 := by
        rw [List.length_append] at hN
        exact hN
      obtain ⟨c, hc1, hc2⟩ := hS.2 done.length v (mid done v l)
      have e1 : (done ++ v :: l).length + (nsl s v).length = ((done ++ [v]) ++ (l ++ nsl s v)).length := by
        simp only [List.length_append, List.length_cons, List.length_nil]
        omega
      rw [e1] at hnx
      have e2 : nI (done ++ [v]).length = nI (done.length + 1) := by
        rw [List.length_append]
        rfl
      have go : ∀ μ1, MR μ1 (cs1 s v) → slM μ1 (cs1 s v) ((done ++ v :: l) ++ nsl s v) → Fr moS μ μ1 → wM_countSlots_57 K (f + 1) (nI (n + ny s v)) (nI (done.length + 1)) μ1 := by
        intro μ1 h1 hS1 hF
        have e3 : (done ++ v :: l) ++ nsl s v = (done ++ [v]) ++ (l ++ nsl s v) := by simp
        rw [e3] at hS1
        have := ih (done ++ [v]) (l ++ nsl s v) (cs1 s v) (n + ny s v) μ1 hnx he h1 hS1 (fun μ2 h2 hF2 u => h μ2 h2 (hF.trans hF2) u)
        rw [e2] at this
        exact this
      have main : wM_countSlots_104 (nI n) (nI done.length) (eo v) (wM_countSlots_57 K (f + 1)) μ := by
        cases v with
        | none =>
          have g := go μ hM (by show slM μ s ((done ++ none :: l) ++ []); rw [List.append_nil]; exact hS) (Fr.refl μ)
          unfold wM_countSlots_104 wM_countSlots_150
          rw [nI_1]
          exact ⟨fun _ => ⟨fun _ => g, fun q => absurd m1_neg q⟩, fun q => absurd m1_neg q⟩
        | some x =>
          have hx := hlive x (by simp)
          have hx2 := hw.lt hx
          have b1 := hb.1 x
          have b2 := hb.2.1 x
          have ex : eo (some x) = nI x := rfl
          unfold wM_countSlots_104 wM_countSlots_150
          rw [ex, nI_clamp (by omega), hM.psta x hx2, hM.pct x hx2, li_2, li_3, li_1, nI_eq (by omega) (by omega), nI_eq (by omega) (by omega), nI_leI (by omega) (by omega), nI_add, nI_add, nI_add]
          refine ⟨fun q => absurd q (nI_pos (by omega)), fun _ => ⟨(nI_vp (by omega)).mpr hx2, fun q => ⟨fun w => ?_, fun w => ?_⟩, fun q => ⟨fun w => absurd w (nI_pos (by omega)), fun _ => ⟨(nI_vp (by omega)).mpr hx2, fun w => ?_, fun w => ?_⟩⟩⟩⟩
          · intro μ14 e14
            subst e14
            have n1 : ¬ sta s x = 1 := by omega
            have ec : cs1 s (some x) = uct s (up (ct s) x 3) := by
              show (if sta s x = 1 then sv s x else uct s (up (ct s) x (if ct s x < 3 then ct s x + 1 else 3))) = _
              rw [if_neg n1, if_neg (by omega)]
            have el : nsl s (some x) = [] := if_neg n1
            have en : ny s (some x) = 0 := if_neg n1
            have g := go (sI μ 23 x (nI 3)) (by rw [ec]; exact hM.w_ct) (by rw [ec, el, List.append_nil]; exact hS.same (mI_no (by omega)) (mI_ne (by decide)) rfl rfl) (Fr.sI m23)
            rw [en] at g
            exact g
          · intro μ14 e14
            subst e14
            have n1 : ¬ sta s x = 1 := by omega
            have ec : cs1 s (some x) = uct s (up (ct s) x (ct s x + 1)) := by
              show (if sta s x = 1 then sv s x else uct s (up (ct s) x (if ct s x < 3 then ct s x + 1 else 3))) = _
              rw [if_neg n1, if_pos (by omega)]
            have el : nsl s (some x) = [] := if_neg n1
            have en : ny s (some x) = 0 := if_neg n1
            have g := go (sI μ 23 x (nI (ct s x + 1))) (by rw [ec]; exact hM.w_ct) (by rw [ec, el, List.append_nil]; exact hS.same (mI_no (by omega)) (mI_ne (by decide)) rfl rfl) (Fr.sI m23)
            rw [en] at g
            exact g
          · have ec : cs1 s (some x) = sv s x := if_pos w
            have el : nsl s (some x) = fL s x (sz s x) := if_pos w
            have en : ny s (some x) = 1 := if_pos w
            refine m_survive hM hS hw hx (hy x l rfl w) hb.2.2.2 (fun μ1 h1 hS1 hF => ?_)
            have g := go μ1 (by rw [ec]; exact h1) (by rw [ec, el]; exact hS1) hF
            rw [en] at g
            exact g
          · exfalso
            rcases ha x hx with ⟨w1, -, -⟩ | ⟨w1, -⟩ <;> omega
      unfold wM_countSlots_57
      rw [hS.1, nI_leI (by omega) (by omega), nI_clamp (by omega), hc1]
      refine ⟨fun q => absurd q (by rw [List.length_append]; simp), fun _ => ⟨(nI_vp (by omega)).mpr (by omega), fun q => ?_, fun q => ?_⟩⟩
      · rcases hc2 with ⟨z1, z2⟩ | ⟨x, i, z1, z2, z3, z4⟩
        · exfalso
          rw [li_6, nI_leI (by omega) (by omega)] at q
          omega
        · subst z3
          have e6 : nI (6 + 12 * x + i) - 6 = nI (12 * x + i) := by
            rw [li_6, nI_sub (by omega)]
            congr 1
            omega
          rw [e6, nI_clamp (by omega), hM.pfl x i z1 z2, z4]
          exact ⟨(nI_vp (by omega)).mpr (by omega), main⟩
      · rcases hc2 with ⟨z1, z2⟩ | ⟨x, i, z1, z2, z3, z4⟩
        · rw [nI_clamp (by omega), hM.prt c z1, z2]
          exact ⟨(nI_vp (by omega)).mpr z1, main⟩
        · exfalso
          rw [li_6, nI_leI (by omega) (by omega)] at q
          omega
