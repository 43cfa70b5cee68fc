/-! The class counts the slots -/
theorem lv_cs1 {s : St} {v : Option Nat} (hl : ∀ x, v = some x → sta s x ≠ 0) {y : Nat} (h : lv (cs1 s v) y) : lv s y := by
  unfold lv at h ⊢
  cases v with
  | none => exact h
  | some x =>
    have hx := hl x rfl
    by_cases w : sta s x = 1
    · have ec : cs1 s (some x) = sv s x := if_pos w
      rw [ec] at h
      have e1 : sta (sv s x) = up (sta s) x 2 := (shf_same (svA s x) x).1
      rw [e1] at h
      by_cases e : y = x
      · subst e; exact hx
      · rw [up_ne e] at h; exact h
    · have ec : cs1 s (some x) = uct s (up (ct s) x (if ct s x < 3 then ct s x + 1 else 3)) := if_neg w
      rw [ec] at h
      exact h
theorem jmin_n {a : Nat} (h : a ≤ 3) : jmin (nI (a + 1)) 3 = nI (if a < 3 then a + 1 else 3) := by
  have k : (3 : Int32) < nI (a + 1) ↔ 3 < a + 1 := by rw [li_3, nI_ltI (by omega) (by omega)]
  unfold jmin
  by_cases e : a < 3
  · have n1 : ¬ (3 : Int32) < nI (a + 1) := fun z => by have := k.mp z; omega
    rw [if_neg n1, if_pos e]
  · have n1 : (3 : Int32) < nI (a + 1) := k.mpr (by omega)
    rw [if_pos n1, if_neg e]
    rfl
theorem c_cs_loop {J : St → List (Option Nat) → Nat → Prop} (hJ : ∀ s rest N, J s rest N → gdC s rest N ∧ ∀ v l, rest = v :: l → J (cs1 s v) (l ++ nsl s v) (N + (nsl s v).length)) {ι : Nat → Nat} {d : Int32} {K : Int32 → Int32 → Mem → Prop} : ∀ (f : Nat) (done rest : List (Option Nat)) (s : St) (n : Nat) (μ : Mem), J s rest (done ++ rest).length → csE f s rest → CR μ s ι d (lv s) → ringR μ ι 15 (done ++ rest) →
    (∀ μ1, CR μ1 (csN f s rest n).1 ι d (lv (csN f s rest n).1) → Fr clS μ μ1 → ∀ v, K (nI (csN f s rest n).2) v μ1) → wC_countSlots_8 K (f + 1) (nI n) (nI done.length) μ := by
  have rN : ∀ {μ : Mem} {L : List (Option Nat)}, ringR μ ι 15 L → mI μ 15 2 = nI L.length := by
    intro μ L h
    obtain ⟨_, _, _, e, _⟩ := h
    exact e
  have fin : ∀ (f : Nat) (done : List (Option Nat)) (s : St) (n : Nat) (μ : Mem), J s [] (done ++ []).length → CR μ s ι d (lv s) → ringR μ ι 15 (done ++ []) → (∀ μ1, CR μ1 (csN f s [] n).1 ι d (lv (csN f s [] n).1) → Fr clS μ μ1 → ∀ v, K (nI (csN f s [] n).2) v μ1) → wC_countSlots_8 K (f + 1) (nI n) (nI done.length) μ := by
    intro f done s n μ hj hM hS h
    obtain ⟨hg, -⟩ := hJ _ _ _ hj
    have hN := hg.2.2.2.1
    rw [List.append_nil] at hS hN
    rw [csN_nil] at h
    unfold wC_countSlots_8
    rw [rN hS, li_262, nI_leI (by omega) (by omega), nI_leI (by omega) (by omega)]
    exact ⟨fun _ => h μ hM (Fr.refl μ) _, fun _ => ⟨fun _ => h μ hM (Fr.refl μ) _, fun q => absurd (Nat.le_refl _) q⟩⟩
  intro f
  induction f with
  | zero =>
    intro done rest s n μ hj he hM hS h
    have : rest = [] := he
    subst this
    exact fin 0 done s n μ hj hM hS h
  | succ f ih =>
    intro done rest s n μ hj he hM hS h
    cases rest with
    | nil => exact fin (f + 1) done s n μ hj hM hS h
    | cons v l =>
      obtain ⟨⟨hw, hb, ha, hN, hlive, hf, hy⟩, hnext⟩ := hJ _ _ _ hj
      have hnx := hnext v l rfl
      have hlen : done.length + (l.length + 1) ≤ 262 := by
        rw [List.length_append] at hN
        exact hN
      have e1 : (done ++ v :: l).length + (nsl s v).length = ((done ++ [v]) ++ (l ++ nsl s v)).length := by
        simp only [List.length_append, List.length_cons, List.length_nil]
        omega
      rw [e1] at hnx
      have e2 : nI (done ++ [v]).length = nI (done.length + 1) := by
        rw [List.length_append]
        rfl
      have hlv : ∀ x, v = some x → sta s x ≠ 0 := fun x hx => hlive x (by rw [hx]; simp)
      have go : ∀ μ1, CR μ1 (cs1 s v) ι d (lv s) → ringR μ1 ι 15 ((done ++ v :: l) ++ nsl s v) → Fr clS μ μ1 → wC_countSlots_8 K (f + 1) (nI (n + ny s v)) (nI (done.length + 1)) μ1 := by
        intro μ1 h1 hS1 hF
        have e3 : (done ++ v :: l) ++ nsl s v = (done ++ [v]) ++ (l ++ nsl s v) := by simp
        rw [e3] at hS1
        have := ih (done ++ [v]) (l ++ nsl s v) (cs1 s v) (n + ny s v) μ1 hnx he (h1.sub (fun y hy => lv_cs1 hlv hy)) hS1 (fun μ2 h2 hF2 u => h μ2 h2 (hF.trans hF2) u)
        rw [e2] at this
        exact this
      have hlt : (done ++ v :: l).length = done.length + (l.length + 1) := by
        rw [List.length_append]
        rfl
      unfold wC_countSlots_8
      rw [rN hS, hlt, li_262, nI_leI (by omega) (by omega), nI_leI (by omega) (by omega), nI_1]
      refine ⟨fun q => absurd q (by omega), fun _ => ⟨fun q => absurd q (by omega), fun _ => ?_⟩⟩
      refine ring_get hS (lay_ok hM.lay rfl) (lay_ok hM.lay rfl) (hM.lay.2 16 _ rfl).2 (mid done v l) ?_
      cases v with
      | none =>
        have g := go μ hM (by show ringR μ ι 15 ((done ++ none :: l) ++ []); rw [List.append_nil]; exact hS) (Fr.refl μ)
        exact ⟨fun _ => g, fun y hy => (by cases hy)⟩
      | some x =>
        have hx := hlive x (by simp)
        have b2 := hb.2.1 x
        have bt := hb.2.2.2
        refine ⟨fun q => (by cases q), fun y4 hy4 => ?_⟩
        have : ι x = y4 := Option.some.inj hy4
        subst this
        have hi := hM.it x hx
        have h35 := hi.i35
        refine ⟨hi.o, c_isOld hi b2 (fun q => ⟨fun w => absurd w (by decide), fun _ => ⟨hi.o, ?_⟩⟩) (fun q => ⟨fun _ => ?_, fun w => absurd rfl w⟩)⟩
        · intro μ16 e16
          subst e16
          have n1 : ¬ sta s x = 1 := by
            rcases ha x hx with ⟨w1, w2, -⟩ | ⟨w1, -⟩ <;> omega
          have ec : cs1 s (some x) = uct s (up (ct s) x (if ct s x < 3 then ct s x + 1 else 3)) := if_neg n1
          have el : nsl s (some x) = [] := if_neg n1
          have en : ny s (some x) = 0 := if_neg n1
          have g := go (sI μ (ι x) 5 (nI (if ct s x < 3 then ct s x + 1 else 3))) (by rw [ec]; exact hM.w_ct hx) (by rw [el, List.append_nil]; exact hS.frame (mI_ne (by omega)) rfl) (Fr.sI (by unfold clS; omega))
          rw [en] at g
          rw [hi.pct, nI_1, jmin_n b2]
          exact g
        · have w : sta s x = 1 := by
            rcases ha x hx with ⟨w1, -, -⟩ | ⟨w1, w2⟩
            · exact w1
            · omega
          have ec : cs1 s (some x) = sv s x := if_pos w
          have el : nsl s (some x) = fL s x (sz s x) := if_pos w
          have en : ny s (some x) = 1 := if_pos w
          have fin2 : wC_countSlots_82 (nI n + 1) (nI done.length) (ι x) (ι x) (nI (if tr s = 0 then 0 else 2)) (wC_countSlots_8 K (f + 1)) μ := by
            refine c_survive hM hS hw hx (fun i y hi2 hfy => hf x i y hx hi2 hfy) (hy x l rfl w) (fun μ1 h1 hS1 hF => ?_)
            have g := go μ1 (by rw [ec]; exact h1) (by rw [el]; exact hS1) hF
            rw [en] at g
            rw [nI_1, nI_1]
            exact g
          have pT : mI μ 0 7 = nI (tr s) := hM.ptr
          rw [pT, li_0, nI_eq (by omega) (by omega)]
          refine ⟨fun q => ?_, fun q => ?_⟩
          · rw [if_pos q] at fin2; exact fin2
          · rw [if_neg q] at fin2; exact fin2
