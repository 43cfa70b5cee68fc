/-! The calls keep the invariant -/
theorem inv_rt {s : St} {β : Nat → Option Nat} (h : Inv s β) {r : Nat} {v : Option Nat} (hv : v = none ∨ (∃ r', r' < 6 ∧ v = rt s r') ∨ ∃ r' x i, r' < 6 ∧ rt s r' = some x ∧ i < sz s x ∧ v = fl s x i) : Inv (urt s (up (rt s) r v)) β := by
  obtain ⟨g, S, T, ⟨hw, hb, ha, hl, hr⟩, hL, hC, hS, hT⟩ := h
  refine ⟨g, S, T, ⟨hw.ext rfl (fun _ => Iff.rfl) rfl rfl rfl rfl, hb, ha, hl, hr⟩, hL, hC, ⟨hS.1, hS.2.1, hS.2.2.1, hS.2.2.2.1, fun r2 y hr2 e => ?_, hS.2.2.2.2.2⟩, hT⟩
  have e' : up (rt s) r v r2 = some y := e
  show S y ∨ sta s y = 1
  by_cases q : r2 = r
  · subst q
    rw [up_self] at e'
    rcases hv with w | ⟨r', hr', w⟩ | ⟨r', x, i, hr', hx, hi, w⟩
    · rw [w] at e'; cases e'
    · rw [w] at e'
      exact hS.2.2.2.2.1 r' y hr' e'
    · rw [w] at e'
      exact hS.2.2.2.2.2 x i y (hS.2.2.2.2.1 r' x hr' hx) hi e'
  · rw [up_ne q] at e'
    exact hS.2.2.2.2.1 r2 y hr2 e'
def slg (s : St) (x i : Nat) : St := ulog (ulg s (up2 (lg s) x i 1)) (log s ++ [(x, i, fl s x i)])
def sto (s : St) (x i : Nat) (v : Option Nat) : St := if sta s x = 2 ∧ lg s x i = 0 then ufl (slg s x i) (up2 (fl s) x i v) else ufl s (up2 (fl s) x i v)
theorem up2_self {α : Type} (f : Nat → Nat → α) (x i : Nat) (v : α) : up2 f x i v x i = v := if_pos ⟨rfl, rfl⟩
theorem up2_ne {α : Type} {f : Nat → Nat → α} {x i y k : Nat} {v : α} (h : ¬ (y = x ∧ k = i)) : up2 f x i v y k = f y k := if_neg h
theorem inv_slg {s : St} {β : Nat → Option Nat} (h : Inv s β) {r x i : Nat} (hr : r < 6) (hx : rt s r = some x) (hi : i < sz s x) (h2 : sta s x = 2) (hl0 : lg s x i = 0) : Inv (slg s x i) β := by
  obtain ⟨g, S, T, ⟨hw, hb, ha, hl, hro⟩, hL, hC, hS, hT⟩ := h
  have hSx : S x := by
    rcases hS.2.2.2.2.1 r x hr hx with q | q
    · exact q
    · omega
  have e_lg : lg (slg s x i) = up2 (lg s) x i 1 := rfl
  have e_log : log (slg s x i) = log s ++ [(x, i, fl s x i)] := rfl
  have hfx := hL.1 x i h2 hi hl0
  refine ⟨g, S, T, ⟨hw.ext rfl (fun _ => Iff.rfl) rfl rfl rfl rfl, hb, ha, hl, hro⟩, ⟨?_, ?_, ?_, ?_, ?_⟩, hC, hS, hT.1, fun htr => ?_⟩
  · intro y k hy hk hlg
    rw [e_lg] at hlg
    have e : ¬ (y = x ∧ k = i) := fun q => by
      obtain ⟨q1, q2⟩ := q
      subst q1; subst q2
      rw [up2_self] at hlg
      omega
    rw [up2_ne e] at hlg
    exact hL.1 y k hy hk hlg
  · intro y k o hm
    rw [e_log] at hm
    rw [e_lg]
    rcases List.mem_append.mp hm with q | q
    · obtain ⟨w1, w2, w3, w4⟩ := hL.2.1 y k o q
      refine ⟨w1, w2, ?_, w4⟩
      unfold up2
      split
      · rfl
      · exact w3
    · have q' := List.mem_singleton.mp q
      obtain ⟨q1, q0⟩ := Prod.mk.inj q'
      obtain ⟨q2, q3⟩ := Prod.mk.inj q0
      subst q1; subst q2; subst q3
      exact ⟨hSx, hi, up2_self _ _ _ _, hfx⟩
  · intro y k hy hk hlg
    rw [e_lg] at hlg
    rw [e_log]
    by_cases e : y = x ∧ k = i
    · obtain ⟨q1, q2⟩ := e
      subst q1; subst q2
      rw [hfx]
      exact List.mem_append_right _ (List.mem_singleton.mpr rfl)
    · rw [up2_ne e] at hlg
      exact List.mem_append_left _ (hL.2.2.1 y k hy hk hlg)
  · rw [e_log, List.map_append, List.nodup_append]
    refine ⟨hL.2.2.2.1, by simp, ?_⟩
    intro a ha b hb e
    have hb' : b = (x, i) := by simpa using hb
    subst hb'; subst e
    obtain ⟨o, ho⟩ := keys_mem.mp ha
    have := (hL.2.1 x i o ho).2.2.1
    omega
  · intro y k hy
    rw [e_lg]
    have hy' : sta s y = 1 := hy
    rw [up2_ne (fun q => by obtain ⟨q1, -⟩ := q; subst q1; omega)]
    exact hL.2.2.2.2 y k hy
  · obtain ⟨t1, t2, t3, t4, t5⟩ := hT.2 htr
    refine ⟨t1, t2, t3, t4, fun C hCl y hy hyw => t5 C ?_ y hy hyw⟩
    intro z k w hz hk hg hq
    refine hCl z k w hz hk hg ?_
    rcases hq with q | q
    · refine Or.inl ?_
      rw [e_lg]
      unfold up2
      split
      · rfl
      · exact q
    · exact Or.inr q
theorem inv_fl {s : St} {β : Nat → Option Nat} (h : Inv s β) {r r2 x i : Nat} (hr : r < 6) (hx : rt s r = some x) (hr2 : r2 < 6) (hi : i < sz s x) (hl0 : sta s x = 2 → lg s x i ≠ 0) : Inv (ufl s (up2 (fl s) x i (rt s r2))) β := by
  obtain ⟨g, S, T, ⟨hw, hb, ha, hl, hro⟩, hL, hC, hS, hT⟩ := h
  have e_fl : fl (ufl s (up2 (fl s) x i (rt s r2))) = up2 (fl s) x i (rt s r2) := rfl
  refine ⟨g, S, T, ⟨hw.ext rfl (fun _ => Iff.rfl) rfl rfl rfl rfl, hb, ha, hl, hro⟩, ⟨?_, hL.2⟩, hC, ⟨hS.1, hS.2.1, hS.2.2.1, hS.2.2.2.1, hS.2.2.2.2.1, ?_⟩, hT⟩
  · intro y k hy hk hlg
    rw [e_fl, up2_ne]
    · exact hL.1 y k hy hk hlg
    · rintro ⟨q1, q2⟩
      subst q1; subst q2
      exact hl0 hy hlg
  · intro z k y hz hk hf
    rw [e_fl] at hf
    by_cases e : z = x ∧ k = i
    · obtain ⟨q1, q2⟩ := e
      subst q1; subst q2
      rw [up2_self] at hf
      exact hS.2.2.2.2.1 r2 y hr2 hf
    · rw [up2_ne e] at hf
      exact hS.2.2.2.2.2 z k y hz hk hf
theorem inv_sto {s : St} {β : Nat → Option Nat} (h : Inv s β) {r r2 x i : Nat} (hr : r < 6) (hx : rt s r = some x) (hr2 : r2 < 6) (hi : i < sz s x) : Inv (sto s x i (rt s r2)) β := by
  unfold sto
  split
  · rename_i q
    refine inv_fl (s := slg s x i) (inv_slg h hr hx hi q.1 q.2) hr hx hr2 hi (fun _ => ?_)
    have : lg (slg s x i) x i = 1 := up2_self _ _ _ _
    omega
  · rename_i q
    exact inv_fl h hr hx hr2 hi (fun h2 hl0 => q ⟨h2, hl0⟩)
theorem inv_new {s t : St} {β : Nat → Option Nat} (h : Inv s β) {x n r : Nat} (hw : Wf t) (hx : sta s x = 0) (e_sta : sta t = up (sta s) x 1) (e_sz : sz t = up (sz s) x n) (e_ct : ct t = up (ct s) x 0) (e_co : co t = up (co s) x 0) (e_fl : fl t = fun y i => if y = x then none else fl s y i) (e_lg : lg t = fun y i => if y = x then 0 else lg s y i)
    (e_rt : rt t = up (rt s) r (some x)) (e_row : row t = row s) (e_log : log t = log s) (e_tr : tr t = tr s) : Inv t β := by
  obtain ⟨g, S, T, ⟨hw0, hb, ha, hl, hro⟩, hL, hC, hS, hT⟩ := h
  have st2 : ∀ y, sta t y = 2 ↔ sta s y = 2 := by
    intro y
    rw [e_sta]
    by_cases e : y = x
    · subst e
      rw [up_self]
      omega
    · rw [up_ne e]
  have nex : ∀ y, sta s y = 2 → y ≠ x := fun y q e => by subst e; omega
  have f_sz : ∀ y, y ≠ x → sz t y = sz s y := fun y e => by rw [e_sz, up_ne e]
  have f_lg : ∀ y i, y ≠ x → lg t y i = lg s y i := fun y i e => by rw [e_lg]; exact if_neg e
  have f_fl : ∀ y i, y ≠ x → fl t y i = fl s y i := fun y i e => by rw [e_fl]; exact if_neg e
  have f_co : ∀ y, y ≠ x → co t y = co s y := fun y e => by rw [e_co, up_ne e]
  have f_ct : ∀ y, y ≠ x → ct t y = ct s y := fun y e => by rw [e_ct, up_ne e]
  have Sne : ∀ y, S y → y ≠ x := fun y q => nex y (hS.1 y q)
  have hGe : ∀ y, hG t g y = hG s g y := by
    intro y
    refine sm_congr (fun z _ => ?_)
    by_cases e : sta s z = 2
    · rw [if_pos ((st2 z).mpr e), if_pos e, f_sz z (nex z e)]
    · rw [if_neg (fun q => e ((st2 z).mp q)), if_neg e]
  have ose : osz t = osz s := by
    refine sm_congr (fun z _ => ?_)
    by_cases e : sta s z = 2
    · rw [if_pos ((st2 z).mpr e), if_pos e, f_sz z (nex z e)]
    · rw [if_neg (fun q => e ((st2 z).mp q)), if_neg e]
  have y1 : ∀ y, sta t y = 1 ↔ (y = x ∨ sta s y = 1) := by
    intro y
    rw [e_sta]
    by_cases e : y = x
    · subst e
      rw [up_self]
      exact ⟨fun _ => Or.inl rfl, fun _ => rfl⟩
    · rw [up_ne e]
      exact ⟨fun q => Or.inr q, fun q => q.elim (fun z => absurd z e) id⟩
  refine ⟨g, S, T, ⟨hw, ⟨?_, ?_, ?_, ?_⟩, ?_, ?_, ?_⟩, ⟨?_, ?_, ?_, ?_, ?_⟩, ⟨?_, ?_⟩, ⟨?_, hS.2.1, ?_, ?_, ?_, ?_⟩, ?_, ?_⟩
  · intro y
    rw [e_sta, up_eq]
    split
    · omega
    · exact hb.1 y
  · intro y
    rw [e_ct, up_eq]
    split
    · omega
    · exact hb.2.1 y
  · intro y
    rw [e_co, up_eq]
    split
    · omega
    · exact hb.2.2.1 y
  · rw [e_tr]; exact hb.2.2.2
  · intro y hy
    by_cases e : y = x
    · subst e
      left
      rw [e_sta, e_ct, e_co, up_self, up_self, up_self]
      exact ⟨rfl, rfl, rfl⟩
    · rw [e_sta, up_ne e] at hy
      rw [e_sta, up_ne e, f_ct y e, f_co y e]
      exact ha y hy
  · rw [e_row, ose]; exact hl
  · intro y hy
    rw [e_row] at hy
    exact (st2 y).mpr (hro y hy)
  · intro y i hy hi hlg
    have hy2 := (st2 y).mp hy
    have e := nex y hy2
    rw [f_sz y e] at hi
    rw [f_lg y i e] at hlg
    rw [f_fl y i e]
    exact hL.1 y i hy2 hi hlg
  · intro y i o hm
    rw [e_log] at hm
    obtain ⟨w1, w2, w3, w4⟩ := hL.2.1 y i o hm
    have e := Sne y w1
    rw [f_sz y e, f_lg y i e]
    exact ⟨w1, w2, w3, w4⟩
  · intro y i hy hi hlg
    have hy2 := (st2 y).mp hy
    have e := nex y hy2
    rw [f_sz y e] at hi
    rw [f_lg y i e] at hlg
    rw [e_log]
    exact hL.2.2.1 y i hy2 hi hlg
  · rw [e_log]; exact hL.2.2.2.1
  · intro y i hy
    rcases (y1 y).mp hy with q | q
    · rw [e_lg]; exact if_pos q
    · by_cases e : y = x
      · rw [e_lg]; exact if_pos e
      · rw [f_lg y i e]; exact hL.2.2.2.2 y i q
  · intro z i y hz hi hg
    have hz2 := (st2 z).mp hz
    rw [f_sz z (nex z hz2)] at hi
    exact (st2 y).mpr (hC.1 z i y hz2 hi hg)
  · intro y hy hct
    have hy2 := (st2 y).mp hy
    rw [f_ct y (nex y hy2)] at hct ⊢
    unfold Hn
    rw [hGe, e_row]
    exact hC.2 y hy2 hct
  · intro y q
    exact (st2 y).mpr (hS.1 y q)
  · intro z i y q hi hg
    rw [f_sz z (Sne z q)] at hi
    exact hS.2.2.1 z i y q hi hg
  · intro y q
    rcases hS.2.2.2.1 y q with w | ⟨z, i, w1, w2, w3⟩
    · exact Or.inl w
    · exact Or.inr ⟨z, i, w1, by rw [f_sz z (Sne z w1)]; exact w2, w3⟩
  · intro r2 y hr2 e
    rw [e_rt] at e
    by_cases q : r2 = r
    · subst q
      rw [up_self] at e
      exact Or.inr ((y1 y).mpr (Or.inl (Option.some.inj e).symm))
    · rw [up_ne q] at e
      rcases hS.2.2.2.2.1 r2 y hr2 e with w | w
      · exact Or.inl w
      · exact Or.inr ((y1 y).mpr (Or.inr w))
  · intro z i y hz hi hf
    by_cases e : z = x
    · rw [e_fl] at hf
      have hf' : (if z = x then none else fl s z i) = some y := hf
      rw [if_pos e] at hf'
      cases hf'
    · rw [f_sz z e] at hi
      rw [f_fl z i e] at hf
      have hz' : S z ∨ sta s z = 1 := by
        rcases hz with q | q
        · exact Or.inl q
        · rcases (y1 z).mp q with w | w
          · exact absurd w e
          · exact Or.inr w
      rcases hS.2.2.2.2.2 z i y hz' hi hf with w | w
      · exact Or.inl w
      · exact Or.inr ((y1 y).mpr (Or.inr w))
  · rw [e_tr]
    intro htr y hy
    have hy2 := (st2 y).mp hy
    rw [f_co y (nex y hy2)]
    exact hT.1 htr y hy2
  · rw [e_tr]
    intro htr
    obtain ⟨t1, t2, t3, t4, t5⟩ := hT.2 htr
    refine ⟨fun y q => (st2 y).mpr (t1 y q), ?_, t3, ?_, ?_⟩
    · intro y hy hco
      have hy2 := (st2 y).mp hy
      rw [f_co y (nex y hy2)] at hco
      exact t2 y hy2 hco
    · intro z i y q hi hg
      rw [f_sz z (nex z (t1 z q))] at hi
      exact t4 z i y q hi hg
    · intro C hCl y q hyw
      have hyW : isW s y := by
        have h2 := (st2 y).mp hyw.1
        have := hyw.2
        rw [f_co y (nex y h2)] at this
        exact ⟨h2, this⟩
      refine t5 C ?_ y q hyW
      intro z i w hz hi hg hq
      have e := nex z hz
      refine hCl z i w ((st2 z).mpr hz) (by rw [f_sz z e]; exact hi) hg ?_
      rcases hq with q | q | ⟨q1, q2, q3⟩
      · exact Or.inl (by rw [f_lg z i e]; exact q)
      · exact Or.inr (Or.inl (by rw [f_co z e]; exact q))
      · exact Or.inr (Or.inr ⟨q1, ⟨(st2 z).mpr q2.1, by rw [f_co z e]; exact q2.2⟩, q3⟩)
noncomputable def cll (s : St) : St := drN 262 (pz false (stN 512 (pz true s)))
theorem ok_stN {s : St} (h : Ok s) (n : Nat) : Ok (stN n s) := by
  obtain ⟨a1, a2, a3, a4, a5⟩ := stN_same n s
  refine ⟨by rw [a1]; exact inv_stN h.1 n, a3.trans h.2.1, fun l => by rw [a4]; exact h.2.2 l⟩
theorem ok_drN {s : St} (h : Ok s) (n : Nat) : Ok (drN n s) := by
  obtain ⟨a1, a2, a3, a4, a5⟩ := drN_same n s
  refine ⟨by rw [a1]; exact inv_drN h.1 n, a3.trans h.2.1, fun l => by rw [a4]; exact h.2.2 l⟩
theorem ok_cll {s : St} (h : Ok s) : Ok (cll s) := ok_drN (ok_pz false (ok_stN (ok_pz true h) 512)) 262
