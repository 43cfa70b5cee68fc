/-! The slots counted: what holds meanwhile -/
theorem sm_ind {n b c : Nat} (h : b < n) : sm (fun i => if i = b then c else 0) n = c := by
  have h1 := sm_up (f := fun _ => 0) (v := c) h
  have h2 := sm_0 n
  have h3 : sm (fun i => if i = b then c else 0) n = sm (up (fun _ => 0) b c) n := sm_congr (fun i _ => rfl)
  omega
def lsm (φ : Nat → Nat → Nat) : List (Nat × Nat × Option Nat) → Nat
  | [] => 0
  | e :: l => φ e.1 e.2.1 + lsm φ l
def keys (L : List (Nat × Nat × Option Nat)) : List (Nat × Nat) := L.map (fun e => (e.1, e.2.1))
theorem lsm_eq (φ : Nat → Nat → Nat) (n : Nat → Nat) (N : Nat) : ∀ L : List (Nat × Nat × Option Nat), (keys L).Nodup → (∀ e, e ∈ L → e.1 < N ∧ e.2.1 < n e.1) → lsm φ L = sm (fun x => sm (fun i => if (x, i) ∈ keys L then φ x i else 0) (n x)) N := by
  intro L
  induction L with
  | nil =>
    intro _ _
    refine (sm_zero (fun x _ => sm_zero (fun i _ => ?_))).symm
    exact if_neg (fun q => by cases q)
  | cons e L ih =>
    intro hn hb
    obtain ⟨a, b, o⟩ := e
    have hk : keys ((a, b, o) :: L) = (a, b) :: keys L := rfl
    rw [hk, List.nodup_cons] at hn
    have h1 := ih hn.2 (fun e he => hb e (List.mem_cons_of_mem _ he))
    obtain ⟨ha, hbn⟩ := hb (a, b, o) List.mem_cons_self
    show φ a b + lsm φ L = _
    rw [h1, hk]
    have h2 : ∀ x, x < N → sm (fun i => if (x, i) ∈ (a, b) :: keys L then φ x i else 0) (n x) = sm (fun i => if (x, i) ∈ keys L then φ x i else 0) (n x) + (if x = a then φ a b else 0) := by
      intro x _
      by_cases e : x = a
      · subst e
        rw [if_pos rfl, ← sm_ind (b := b) (c := φ x b) hbn, ← sm_add]
        refine sm_congr (fun i _ => ?_)
        by_cases ei : i = b
        · subst ei
          rw [if_pos List.mem_cons_self, if_neg hn.1, if_pos rfl]
          omega
        · rw [if_neg ei, Nat.add_zero]
          by_cases q : (x, i) ∈ keys L
          · rw [if_pos q, if_pos (List.mem_cons_of_mem _ q)]
          · rw [if_neg q, if_neg (fun w => ?_)]
            rcases List.mem_cons.mp w with w | w
            · exact ei (Prod.mk.inj w).2
            · exact q w
      · rw [if_neg e, Nat.add_zero]
        refine sm_congr (fun i _ => ?_)
        by_cases q : (x, i) ∈ keys L
        · rw [if_pos q, if_pos (List.mem_cons_of_mem _ q)]
        · rw [if_neg q, if_neg (fun w => ?_)]
          rcases List.mem_cons.mp w with w | w
          · exact e (Prod.mk.inj w).1
          · exact q w
    rw [sm_congr h2, sm_add, sm_ind ha]
    omega
theorem keys_mem {L : List (Nat × Nat × Option Nat)} {x i : Nat} : (x, i) ∈ keys L ↔ ∃ o, (x, i, o) ∈ L := by
  unfold keys
  rw [List.mem_map]
  constructor
  · rintro ⟨⟨a, b, o⟩, h, e⟩
    obtain ⟨e1, e2⟩ := Prod.mk.inj e
    have e1' : a = x := e1
    have e2' : b = i := e2
    subst e1'; subst e2'
    exact ⟨o, h⟩
  · rintro ⟨o, h⟩
    exact ⟨(x, i, o), h, rfl⟩
/-- a sum over the log, told over the fields of the old -/
theorem log_sum {s : St} {g : Nat → Nat → Option Nat} {S : Nat → Prop} (hw : Wf s) (hS1 : ∀ y, S y → sta s y = 2) (hL : IG s g S) (φ : Nat → Nat → Nat) : lsm φ (log s) = sm (fun x => if sta s x = 2 then sm (fun i => if lg s x i ≠ 0 then φ x i else 0) (sz s x) else 0) 256 := by
  rw [lsm_eq φ (sz s) 256 (log s) hL.2.2.2.1 (fun e he => ?_)]
  · refine sm_congr (fun x _ => ?_)
    by_cases h2 : sta s x = 2
    · rw [if_pos h2]
      refine sm_congr (fun i hi => ?_)
      by_cases e : lg s x i = 0
      · have hk : (x, i) ∉ keys (log s) := fun q => by
          obtain ⟨o, ho⟩ := keys_mem.mp q
          have := (hL.2.1 x i o ho).2.2.1
          omega
        rw [if_neg hk, if_neg (fun q => q e)]
      · rw [if_pos (keys_mem.mpr ⟨_, hL.2.2.1 x i h2 hi e⟩), if_pos e]
    · rw [if_neg h2]
      refine sm_zero (fun i _ => if_neg (fun q => ?_))
      obtain ⟨o, ho⟩ := keys_mem.mp q
      exact h2 (hS1 x (hL.2.1 x i o ho).1)
  · obtain ⟨x, i, o⟩ := e
    have h := hL.2.1 x i o he
    have h2 := hS1 x h.1
    exact ⟨hw.lt (show sta s x ≠ 0 by omega), h.2.1⟩
theorem lsm_1 (L : List (Nat × Nat × Option Nat)) : lsm (fun _ _ => 1) L = L.length := by
  induction L with
  | nil => rfl
  | cons e L ih =>
    show 1 + lsm (fun _ _ => 1) L = _
    rw [ih, List.length_cons]
    omega
theorem log_len {s : St} {g : Nat → Nat → Option Nat} {S : Nat → Prop} (hw : Wf s) (hS1 : ∀ y, S y → sta s y = 2) (hL : IG s g S) : (log s).length ≤ osz s := by
  rw [← lsm_1, log_sum hw hS1 hL]
  refine sm_le (fun x _ => ?_)
  by_cases h2 : sta s x = 2
  · rw [if_pos h2, if_pos h2]
    have h1 : sm (fun i => if lg s x i ≠ 0 then 1 else 0) (sz s x) ≤ sm (fun _ => 1) (sz s x) := sm_le (fun i _ => by split <;> omega)
    have h2 := sm_1s (sz s x)
    omega
  · rw [if_neg h2, if_neg h2]
    omega
def ysz (s : St) : Nat := sm (fun x => if sta s x = 1 then sz s x else 0) 256
theorem oysz {s : St} (hw : Wf s) : osz s + ysz s ≤ 128 := by
  have h := sum_sz hw
  unfold osz ysz
  rw [← sm_add]
  refine Nat.le_trans (sm_le (fun x _ => ?_)) h
  unfold wLv
  by_cases e2 : sta s x = 2
  · rw [if_pos e2, if_neg (by omega), if_neg (by omega)]; omega
  · by_cases e1 : sta s x = 1
    · rw [if_neg e2, if_pos e1, if_neg (by omega)]; omega
    · rw [if_neg e2, if_neg e1]; omega
theorem ysz_rm {s t : St} {x : Nat} (hx : x < 256) (h1 : sta s x = 1) (e1 : sta t = up (sta s) x 2) (e2 : sz t = sz s) : ysz t + sz s x = ysz s := by
  have h := sm_up (f := fun x => if sta s x = 1 then sz s x else 0) (v := 0) hx
  rw [if_pos h1, Nat.add_zero] at h
  unfold ysz
  rw [e1, e2]
  rw [sm_congr (g := up (fun x => if sta s x = 1 then sz s x else 0) x 0)]
  · exact h
  · intro z _
    by_cases e : z = x
    · subst e
      rw [up_self, up_self]
      exact if_neg (by omega)
    · rw [up_ne e, up_ne e]
/-- fields of those that have grown old meanwhile -/
def gro (s0 s : St) (y : Nat) : Nat := sm (fun x => if sta s0 x = 1 ∧ sta s x = 2 then fc (fl s0 x) y (sz s0 x) else 0) 256
def sameF (s0 s : St) : Prop := sz s = sz s0 ∧ fl s = fl s0 ∧ lg s = lg s0 ∧ rt s = rt s0 ∧ bf s = bf s0 ∧ row s = row s0 ∧ log s = log s0 ∧ tr s = tr s0 ∧ cl s = cl s0
def CJ (s0 : St) (Hb : Nat → Nat) (S : Nat → Prop) (s : St) (done rest : List (Option Nat)) : Prop := (Wf s ∧ Bd s ∧ Ag s) ∧ sameF s0 s ∧ (∀ x, sta s x = sta s0 x ∨ (sta s0 x = 1 ∧ sta s x = 2)) ∧ (∀ x, sta s0 x = 2 → co s x = co s0 x) ∧ (∀ x, sta s0 x = 1 → sta s x = 2 → co s x = if tr s0 = 0 then 0 else 2) ∧
  (∀ y, sta s y = 2 → ct s y < 3 → ct s y = Hb y + done.count (some y)) ∧ (∀ y, some y ∈ done → sta s y = 2) ∧ (∀ y, (done ++ rest).count (some y) = (slt s0).count (some y) + gro s0 s y) ∧ (∀ y, some y ∈ done ++ rest → S y ∨ sta s0 y = 1) ∧ (done ++ rest).length + ysz s ≤ 262
def CJ0 (s0 : St) (Hb : Nat → Nat) (S : Nat → Prop) : Prop := (∀ y, S y → sta s0 y = 2) ∧ (∀ y, sta s0 y = 1 → Hb y = 0) ∧ (∀ x i y, sta s0 x ≠ 0 → i < sz s0 x → fl s0 x i = some y → sta s0 y ≠ 0) ∧ (∀ x i y, sta s0 x = 1 → i < sz s0 x → fl s0 x i = some y → S y ∨ sta s0 y = 1)
theorem cj_gdC {s0 : St} {Hb : Nat → Nat} {S : Nat → Prop} (h0 : CJ0 s0 Hb S) {s : St} {done rest : List (Option Nat)} (h : CJ s0 Hb S s done rest) : gdC s rest (done ++ rest).length := by
  obtain ⟨⟨hw, hb, ha⟩, ⟨e1, e2, e3, e4, e5, e6, e7, e8, e9⟩, h1, h2, h3, h4, h5, h6, h7, h8⟩ := h
  have live : ∀ x, sta s0 x ≠ 0 → sta s x ≠ 0 := by
    intro x hx
    rcases h1 x with q | q <;> omega
  refine ⟨hw, hb, ha, by omega, fun x hx => ?_, fun x i y hx hi hf => ?_, fun x l hr hx => ?_⟩
  · refine live x ?_
    rcases h7 x (List.mem_append_right _ hx) with q | q
    · have := h0.1 x q; omega
    · omega
  · refine live y ?_
    rw [e1] at hi
    rw [e2] at hf
    refine h0.2.2.1 x i y ?_ hi hf
    rcases h1 x with q | q <;> omega
  · have hm := sm_mem (f := fun x => if sta s x = 1 then sz s x else 0) (hw.lt (show sta s x ≠ 0 by omega))
    rw [if_pos hx] at hm
    have : sz s x ≤ ysz s := hm
    omega
theorem gro_add {s0 s t : St} {x : Nat} (hx : x < 256) (h0 : sta s0 x = 1) (h1 : sta s x = 1) (e1 : sta t = up (sta s) x 2) (y : Nat) : gro s0 t y = gro s0 s y + fc (fl s0 x) y (sz s0 x) := by
  have h := sm_up (f := fun x => if sta s0 x = 1 ∧ sta s x = 2 then fc (fl s0 x) y (sz s0 x) else 0) (v := fc (fl s0 x) y (sz s0 x)) hx
  rw [if_neg (by omega), Nat.add_zero] at h
  unfold gro
  rw [e1, ← h]
  refine sm_congr (fun z _ => ?_)
  by_cases e : z = x
  · subst e
    rw [up_self, up_self, if_pos ⟨h0, rfl⟩]
  · rw [up_ne e, up_ne e]
theorem sv_sta (s : St) (x : Nat) : sta (sv s x) = up (sta s) x 2 := (shf_same (svA s x) x).1
theorem mem_count {y : Nat} {L : List (Option Nat)} : some y ∈ L ↔ 0 < L.count (some y) := List.count_pos_iff.symm
theorem cj_step {s0 : St} {Hb : Nat → Nat} {S : Nat → Prop} (h0 : CJ0 s0 Hb S) {s : St} {done l : List (Option Nat)} {v : Option Nat} (h : CJ s0 Hb S s done (v :: l)) : CJ s0 Hb S (cs1 s v) (done ++ [v]) (l ++ nsl s v) := by
  have hg := cj_gdC h0 h
  obtain ⟨⟨hw, hb, ha⟩, hsame, h1, h2, h3, h4, h5, h6, h7, h8⟩ := h
  obtain ⟨e1, e2, e3, e4, e5, e6, e7, e8, e9⟩ := hsame
  have cnt1 : ∀ y, v ≠ some y → (done ++ [v]).count (some y) = done.count (some y) := by
    intro y hy
    rw [List.count_append, List.count_singleton, if_neg (by simpa using hy)]
    omega
  have cntv : ∀ x, v = some x → (done ++ [v]).count (some x) = done.count (some x) + 1 := by
    intro x hx
    rw [List.count_append, hx]
    simp
  cases v with
  | none =>
    refine ⟨⟨hw, hb, ha⟩, ⟨e1, e2, e3, e4, e5, e6, e7, e8, e9⟩, h1, h2, h3, ?_, ?_, ?_, ?_, ?_⟩
    · intro y hy hc
      rw [cnt1 y (by simp)]
      exact h4 y hy hc
    · intro y hy
      rcases List.mem_append.mp hy with q | q
      · exact h5 y q
      · simp at q
    · intro y
      show (done ++ [none] ++ (l ++ [])).count (some y) = _
      rw [List.append_nil, List.append_assoc]
      exact h6 y
    · intro y hy
      have hy' : some y ∈ done ++ [none] ++ (l ++ []) := hy
      rw [List.append_nil, List.append_assoc] at hy'
      exact h7 y hy'
    · show (done ++ [none] ++ (l ++ [])).length + ysz s ≤ 262
      rw [List.append_nil, List.append_assoc]
      exact h8
  | some x =>
    have hlive := hg.2.2.2.2.1 x List.mem_cons_self
    have hx := hw.lt hlive
    by_cases h1x : sta s x = 1
    · have hs0 : sta s0 x = 1 := by rcases h1 x with q | q <;> omega
      obtain ⟨q1, q2, q3, q4, q5, q6, q7, q8, q9, q10, q11, q12, q13, q14, q15, q16⟩ := shf_same (svA s x) x
      have ecs : cs1 s (some x) = sv s x := if_pos h1x
      have ens : nsl s (some x) = fL s x (sz s x) := if_pos h1x
      have e_sta := sv_sta s x
      have e_ct : ct (sv s x) = up (ct s) x 1 := q4
      have e_co : co (sv s x) = up (co s) x (if tr s = 0 then 0 else 2) := q5
      have nd : some x ∉ done := fun q => by have := h5 x q; omega
      rw [ecs, ens]
      have wv : Wf (sv s x) := wf_shf (wf_svA hw hlive) (by show up (sta s) x 2 x ≠ 0; rw [up_self]; omega)
      refine ⟨⟨wv, ⟨?_, ?_, ?_, ?_⟩, ?_⟩, ⟨q2.trans e1, q6.trans e2, q7.trans e3, q9.trans e4, q10.trans e5, q11.trans e6, q12.trans e7, q13.trans e8, q16.trans e9⟩, ?_, ?_, ?_, ?_, ?_, ?_, ?_, ?_⟩
      · intro y
        rw [e_sta, up_eq]
        split
        · omega
        · exact hb.1 y
      · intro y
        rw [e_ct, up_eq]
        split
        · omega
        · exact hb.2.1 y
      · intro y
        rw [e_co, up_eq]
        split
        · split <;> omega
        · exact hb.2.2.1 y
      · have : tr (sv s x) = tr s := q13
        rw [this]
        exact hb.2.2.2
      · intro y hy
        rw [e_sta] at hy
        rw [e_sta, e_ct, e_co]
        by_cases e : y = x
        · subst e
          rw [up_self, up_self]
          exact Or.inr ⟨rfl, by omega⟩
        · rw [up_ne e] at hy
          rw [up_ne e, up_ne e, up_ne e]
          exact ha y hy
      · intro y
        rw [e_sta]
        by_cases e : y = x
        · subst e
          rw [up_self]
          exact Or.inr ⟨hs0, rfl⟩
        · rw [up_ne e]; exact h1 y
      · intro y hy
        rw [e_co, up_ne (fun e => by subst e; omega)]
        exact h2 y hy
      · intro y hy hy2
        rw [e_co]
        by_cases e : y = x
        · subst e
          rw [up_self, e8]
        · rw [e_sta, up_ne e] at hy2
          rw [up_ne e]
          exact h3 y hy hy2
      · intro y hy hc
        rw [e_ct] at hc ⊢
        by_cases e : y = x
        · subst e
          rw [up_self, cntv y rfl, h0.2.1 y hs0, List.count_eq_zero.mpr nd]
        · rw [e_sta, up_ne e] at hy
          rw [up_ne e] at hc ⊢
          rw [cnt1 y (fun q => e (Option.some.inj q).symm)]
          exact h4 y hy hc
      · intro y hy
        rw [e_sta]
        by_cases e : y = x
        · subst e; exact up_self _ _ _
        · rw [up_ne e]
          rcases List.mem_append.mp hy with q | q
          · exact h5 y q
          · simp at q
            exact absurd q e
      · intro y
        have := h6 y
        rw [gro_add hx hs0 h1x e_sta]
        rw [show done ++ [some x] ++ (l ++ fL s x (sz s x)) = (done ++ some x :: l) ++ fL s x (sz s x) by simp, List.count_append, this]
        have : (fL s x (sz s x)).count (some y) = fc (fl s0 x) y (sz s0 x) := by
          rw [show fL s x (sz s x) = (List.range (sz s x)).map (fl s x) from rfl, fc_countM, e1, e2]
        omega
      · intro y hy
        rw [show done ++ [some x] ++ (l ++ fL s x (sz s x)) = (done ++ some x :: l) ++ fL s x (sz s x) by simp] at hy
        rcases List.mem_append.mp hy with q | q
        · exact h7 y q
        · unfold fL at q
          obtain ⟨i, hi, hf⟩ := List.mem_map.mp q
          rw [List.mem_range, e1] at hi
          rw [e2] at hf
          exact h0.2.2.2 x i y hs0 hi hf
      · have hy := ysz_rm hx h1x e_sta (t := sv s x) q2
        rw [show done ++ [some x] ++ (l ++ fL s x (sz s x)) = (done ++ some x :: l) ++ fL s x (sz s x) by simp, List.length_append, fL_len]
        omega
    · have hs2 : sta s x = 2 := by
        have := hb.1 x
        omega
      have ecs : cs1 s (some x) = uct s (up (ct s) x (if ct s x < 3 then ct s x + 1 else 3)) := if_neg h1x
      have ens : nsl s (some x) = [] := if_neg h1x
      rw [ecs, ens]
      have hc3 := hb.2.1 x
      have hL : done ++ [some x] ++ (l ++ []) = done ++ some x :: l := by simp
      refine ⟨⟨hw.ext rfl (fun _ => Iff.rfl) rfl rfl rfl rfl, ⟨hb.1, ?_, hb.2.2.1, hb.2.2.2⟩, ?_⟩, ⟨e1, e2, e3, e4, e5, e6, e7, e8, e9⟩, h1, h2, h3, ?_, ?_, ?_, ?_, ?_⟩
      · intro y
        show up (ct s) x (if ct s x < 3 then ct s x + 1 else 3) y ≤ 3
        rw [up_eq]
        split
        · split <;> omega
        · exact hb.2.1 y
      · intro y hy
        show (sta s y = 1 ∧ up (ct s) x (if ct s x < 3 then ct s x + 1 else 3) y = 0 ∧ co s y = 0) ∨ (sta s y = 2 ∧ 1 ≤ up (ct s) x (if ct s x < 3 then ct s x + 1 else 3) y)
        by_cases e : y = x
        · subst e
          rw [up_self]
          exact Or.inr ⟨hs2, by split <;> omega⟩
        · rw [up_ne e]; exact ha y hy
      · intro y hy hc
        have hc' : up (ct s) x (if ct s x < 3 then ct s x + 1 else 3) y < 3 := hc
        show up (ct s) x (if ct s x < 3 then ct s x + 1 else 3) y = _
        by_cases e : y = x
        · subst e
          rw [up_self] at hc' ⊢
          have hlt : ct s y < 3 := by
            by_cases q : ct s y < 3
            · exact q
            · rw [if_neg q] at hc'; omega
          rw [if_pos hlt, cntv y rfl]
          have := h4 y hy hlt
          omega
        · rw [up_ne e] at hc' ⊢
          rw [cnt1 y (fun q => e (Option.some.inj q).symm)]
          exact h4 y hy hc'
      · intro y hy
        rcases List.mem_append.mp hy with q | q
        · exact h5 y q
        · simp at q
          subst q
          exact hs2
      · intro y
        rw [hL]
        exact h6 y
      · intro y hy
        rw [hL] at hy
        exact h7 y hy
      · rw [hL]
        exact h8
