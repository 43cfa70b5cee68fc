/-! After the settling: the invariant, of the roots as they are now -/
theorem gro_pos {s t : St} {x i y : Nat} (hx : x < 256) (h1 : sta s x = 1) (h2 : sta t x = 2) (hi : i < sz s x) (h : fl s x i = some y) : 0 < gro s t y := by
  have hm := sm_mem (f := fun x => if sta s x = 1 ∧ sta t x = 2 then fc (fl s x) y (sz s x) else 0) hx
  rw [if_pos ⟨h1, h2⟩] at hm
  have := fc_pos hi h
  unfold gro
  omega
theorem lgk_all {s : St} {x i : Nat} : lgk s (log s).length x i = if (x, i) ∈ keys (log s) then 0 else lg s x i := by
  unfold lgk
  rw [List.take_length]
  by_cases e : (x, i) ∈ keys (log s)
  · rw [if_pos e]
    obtain ⟨o, ho⟩ := keys_mem.mp e
    exact if_pos (List.any_eq_true.mpr ⟨(x, i, o), ho, by simp⟩)
  · rw [if_neg e]
    refine if_neg (fun q => e ?_)
    obtain ⟨⟨a, b, o⟩, ho, hq⟩ := List.any_eq_true.mp q
    simp at hq
    obtain ⟨q1, q2⟩ := hq
    subst q1; subst q2
    exact keys_mem.mpr ⟨o, ho⟩
/-- the invariant, where the trace knows all that waits -/
def InvT (s : St) (β : Nat → Option Nat) : Prop := ∃ g S T, (I0 s ∧ IG s g S ∧ IC s β g ∧ IS s β g S ∧ IT s g S T) ∧ (tr s ≠ 0 → ∀ y, y ∈ row s → T y)
theorem inv_stl {s : St} (h : Inv s (bf s)) (hrow : row s = []) : InvT (stl s) (rt s) ∧ csE 262 s (slt s) ∧ sameF s (cse s) ∧ (∀ l, lf (stl s) l = 0) ∧ rt (stl s) = rt s ∧ cl (stl s) = cl s ∧ log (stl s) = [] ∧ tr (stl s) = tr s ∧ (∀ x, sta (stl s) x ≠ 0 → sta (stl s) x = 2) ∧ (∀ x i, sta (stl s) x = 2 → i < sz (stl s) x → lg (stl s) x i = 0) := by
  obtain ⟨g, S, T, h0, hL, hC, hS, hT⟩ := h
  obtain ⟨hE, ⟨hw, hb, ha⟩, hsame, k0, k1, k2, k3, k4, k5, k6, k7⟩ := cse_is h0 hL hC hS hT hrow
  obtain ⟨hw0, hb0, ha0, hl0, hr0⟩ := h0
  have hlen := log_len hw0 hS.1 hL
  have hoy0 := oysz hw0
  have hoy := oysz hw
  obtain ⟨e1, e2, e3, e4, e5, e6, e7, e8, e9⟩ := hsame
  generalize ht : cse s = t at *
  have hstl : stl s = qrl t := by unfold stl; rw [ht]
  have q_sta : sta (qrl t) = sta t := rfl
  have q_sz : sz (qrl t) = sz s := e1
  have q_fl : fl (qrl t) = fl s := e2
  have q_rt : rt (qrl t) = rt s := e4
  have q_ct : ct (qrl t) = ct t := rfl
  have q_tr : tr (qrl t) = tr s := e8
  have q_log : log (qrl t) = [] := rfl
  have q_lg : ∀ x i, lg (qrl t) x i = if (x, i) ∈ keys (log s) then 0 else lg s x i := by
    intro x i
    have : lg (qrl t) x i = lgk t (log t).length x i := rfl
    rw [this, lgk_all, e7, e3]
  have q_olds : olds t (log t).length = (log s).filterMap (fun e => e.2.2) := by
    unfold olds
    rw [List.take_length, e7]
  have q_row : row (qrl t) = bfs s 6 ++ (log s).filterMap (fun e => e.2.2) := by
    have : row (qrl t) = (row t ++ bfs t 6) ++ olds t (log t).length := rfl
    rw [this, q_olds, e6, hrow]
    unfold bfs
    rw [e5]
    rfl
  have q_co : co (qrl t) = if tr s = 0 then co t else grl t ((log s).filterMap (fun e => e.2.2)) := by
    have : co (qrl t) = qcol (urow t (row t ++ bfs t 6)) (log t).length := rfl
    rw [this]
    have e8' : tr (urow t (row t ++ bfs t 6)) = tr s := e8
    unfold qcol
    rw [e8', show olds (urow t (row t ++ bfs t 6)) (log t).length = olds t (log t).length from rfl, q_olds]
    rfl
  have mem_olds : ∀ y, y ∈ (log s).filterMap (fun e => e.2.2) → ∃ x i, S x ∧ i < sz s x ∧ lg s x i = 1 ∧ g x i = some y := by
    intro y hy
    obtain ⟨⟨x, i, o⟩, he, ho⟩ := List.mem_filterMap.mp hy
    have hh := hL.2.1 x i o he
    refine ⟨x, i, hh.1, hh.2.1, hh.2.2.1, ?_⟩
    rw [← hh.2.2.2]
    exact ho
  have olds_mem : ∀ x i y, sta s x = 2 → i < sz s x → lg s x i ≠ 0 → g x i = some y → y ∈ (log s).filterMap (fun e => e.2.2) := by
    intro x i y hx hi hl hg
    exact List.mem_filterMap.mpr ⟨_, hL.2.2.1 x i hx hi hl, hg⟩
  have slt_rt : ∀ r y, r < 6 → rt s r = some y → sta t y = 2 := by
    intro r y hr e
    refine k7 y ?_
    have : some y ∈ slt s := by
      unfold slt rL
      exact List.mem_append_left _ (List.mem_map.mpr ⟨r, List.mem_range.mpr hr, e⟩)
    have := mem_count.mp this
    omega
  have slt_lg : ∀ x i y, sta s x = 2 → i < sz s x → lg s x i ≠ 0 → fl s x i = some y → sta t y = 2 := by
    intro x i y hx hi hl e
    refine k7 y ?_
    have : some y ∈ slt s := by
      unfold slt lL
      rw [List.take_length]
      exact List.mem_append_right _ (List.mem_map.mpr ⟨_, hL.2.2.1 x i hx hi hl, e⟩)
    have := mem_count.mp this
    omega
  have old_fl : ∀ x i y, sta t x = 2 → i < sz s x → fl s x i = some y → sta t y = 2 := by
    intro x i y hx hi hf
    rcases k3 x hx with q | q
    · by_cases e : lg s x i = 0
      · rw [hL.1 x i q hi e] at hf
        exact k2 y (hC.1 x i y q hi hf)
      · exact slt_lg x i y q hi e hf
    · refine k7 y ?_
      have := gro_pos (hw.lt (show sta t x ≠ 0 by omega)) q hx hi hf
      omega
  have lg0 : ∀ x i, sta t x = 2 → i < sz s x → lg (qrl t) x i = 0 := by
    intro x i hx hi
    rw [q_lg]
    by_cases e : (x, i) ∈ keys (log s)
    · exact if_pos e
    · rw [if_neg e]
      rcases k3 x hx with q | q
      · by_cases e0 : lg s x i = 0
        · exact e0
        · exact absurd (keys_mem.mpr ⟨_, hL.2.2.1 x i q hi e0⟩) e
      · exact hL.2.2.2.2 x i q
  have SS : ∀ y, Rc (rt s) (fl s) (sz s) y → (S y ∨ sta s y = 1) ∧ sta t y = 2 := by
    intro y hy
    refine hy (fun y => (S y ∨ sta s y = 1) ∧ sta t y = 2) (fun r x hr e => ⟨hS.2.2.2.2.1 r x hr e, slt_rt r x hr e⟩) (fun x i z hx hi e => ⟨hS.2.2.2.2.2 x i z hx.1 hi e, old_fl x i z hx.2 hi e⟩)
  rw [hstl]
  refine ⟨⟨fl s, Rc (rt s) (fl s) (sz s), fun x => T x ∨ (sta s x = 1 ∧ sta t x = 2), ⟨⟨hw.ext rfl (fun _ => Iff.rfl) rfl rfl rfl rfl, ⟨hb.1, hb.2.1, ?_, ?_⟩, ?_, ?_, ?_⟩, ⟨?_, ?_, ?_, ?_, ?_⟩, ⟨?_, ?_⟩, ⟨?_, ?_, ?_, ?_, ?_, ?_⟩, ?_, ?_⟩, ?_⟩, hE, ⟨e1, e2, e3, e4, e5, e6, e7, e8, e9⟩, k0, q_rt, e9, rfl, q_tr, k1, ?_⟩
  · rw [q_co]
    split
    · exact hb.2.2.1
    · exact grl_le hb.2.2.1
  · rw [q_tr]; exact hb0.2.2.2
  · intro x hx
    exact Or.inr ⟨k1 x hx, ha.ct1 (k1 x hx)⟩
  · have h1 : (bfs s 6).length ≤ 6 := bfs_len s 6
    have h2 : ((log s).filterMap (fun e => e.2.2)).length ≤ (log s).length := List.length_filterMap_le _ _
    have h3 : osz (qrl t) = osz t := rfl
    rw [q_row, List.length_append, h3]
    omega
  · intro y hy
    rw [q_row] at hy
    rcases List.mem_append.mp hy with q | q
    · unfold bfs at q
      obtain ⟨r, hr, e⟩ := List.mem_filterMap.mp q
      exact k2 y (hS.1 y (hS.2.1 r y (List.mem_range.mp hr) e))
    · obtain ⟨x, i, hx, hi, -, hg⟩ := mem_olds y q
      exact k2 y (hS.1 y (hS.2.2.1 x i y hx hi hg))
  · intro x i hx hi _
    rw [q_fl]
  · intro x i o hm
    rw [q_log] at hm
    cases hm
  · intro x i hx hi hl
    rw [q_sz] at hi
    exact absurd (lg0 x i hx hi) hl
  · rw [q_log]; exact List.nodup_nil
  · intro x i hx
    have := k1 x (by rw [← q_sta]; omega)
    rw [q_sta] at hx
    omega
  · intro x i y hx hi hf
    rw [q_sz] at hi
    exact old_fl x i y hx hi hf
  · intro y hy hc
    have hct := k6 y hy hc
    rw [q_ct, hct]
    unfold Hn
    rw [hrow, q_row, List.count_append]
    have c1 : (bfs s 6).count y = fc (bf s) y 6 := fc_count (bf s) y 6
    have c2 := olds_count (g := g) (y := y) (log s) (fun x i o ho => (hL.2.1 x i o ho).2.2.2)
    have c3 : (slt s).count (some y) = fc (rt s) y 6 + lsm (fun x i => if fl s x i = some y then 1 else 0) (log s) := by
      unfold slt rL lL
      rw [List.take_length, List.count_append, fc_countM, nows_count]
    have c4 := now_then hw0 hS.1 hL y
    have c5 : hG (qrl t) (fl s) y = hG s (fl s) y + gro s t y := by
      unfold hG gro
      rw [← sm_add]
      refine sm_congr (fun x _ => ?_)
      rw [q_sta, q_sz]
      by_cases e2 : sta s x = 2
      · rw [if_pos (k2 x e2), if_pos e2, if_neg (by omega)]
        omega
      · by_cases e3 : sta t x = 2
        · have : sta s x = 1 := by rcases k3 x e3 with q | q <;> omega
          rw [if_pos e3, if_neg e2, if_pos ⟨this, e3⟩]
          omega
        · rw [if_neg e3, if_neg e2, if_neg (fun q => e3 q.2)]
    have c6 : ([] : List Nat).count y = 0 := rfl
    omega
  · intro y hy
    exact (SS y hy).2
  · intro r y hr e
    exact Rc.root hr e
  · rw [q_sz]
    intro x i y hx hi e
    exact hx.step hi e
  · rw [q_sz]
    intro y hy
    exact hy.sup
  · rw [q_rt]
    intro r y hr e
    exact Or.inl (Rc.root hr e)
  · rw [q_sz, q_fl]
    intro x i y hx hi e
    rcases hx with q | q
    · exact Or.inl (q.step hi e)
    · have := k1 x (by rw [← q_sta]; omega)
      rw [q_sta] at q
      omega
  · rw [q_tr]
    intro htr x hx
    rw [q_co, if_pos htr]
    rcases k3 x hx with q | q
    · rw [k4 x q]
      exact hT.1 htr x q
    · rw [k5 x q hx, if_pos htr]
  · rw [q_tr]
    intro htr
    obtain ⟨t1, t2, t3, t4, t5⟩ := hT.2 htr
    have q_co' : co (qrl t) = grl t ((log s).filterMap (fun e => e.2.2)) := by rw [q_co, if_neg htr]
    have TS : ∀ y, (S y ∨ sta s y = 1) → sta t y = 2 → T y ∨ (sta s y = 1 ∧ sta t y = 2) := by
      intro y hy h2
      rcases hy with q | q
      · exact Or.inl (t3 y q)
      · exact Or.inr ⟨q, h2⟩
    refine ⟨?_, ?_, ?_, ?_, ?_⟩
    · intro x hx
      rcases hx with q | q
      · exact k2 x (t1 x q)
      · exact q.2
    · intro x hx hco
      rcases k3 x hx with q | q
      · left
        by_cases e0 : co t x = 0
        · rw [q_co'] at hco
          obtain ⟨-, hm⟩ := grl_new (s := t) ⟨hx, e0⟩ hco
          obtain ⟨z, i, hz, hi, -, hg⟩ := mem_olds x hm
          exact t3 x (hS.2.2.1 z i x hz hi hg)
        · rw [k4 x q] at e0
          exact t2 x q e0
      · exact Or.inr ⟨q, hx⟩
    · intro y hy
      exact TS y (SS y hy).1 (SS y hy).2
    · rw [q_sz]
      intro x i y hx hi hf
      rcases hx with q | q
      · have hx2 := t1 x q
        by_cases e : lg s x i = 0
        · rw [hL.1 x i hx2 hi e] at hf
          exact Or.inl (t4 x i y q hi hf)
        · have hSx := (hL.2.1 _ _ _ (hL.2.2.1 x i hx2 hi e)).1
          exact TS y (hS.2.2.2.2.2 x i y (Or.inl hSx) hi hf) (slt_lg x i y hx2 hi e hf)
      · exact TS y (hS.2.2.2.2.2 x i y (Or.inr q.1) hi hf) (old_fl x i y q.2 hi hf)
    · intro C hCl y hy hyw
      have hy2 : sta t y = 2 := hyw.1
      have hco0 : grl t ((log s).filterMap (fun e => e.2.2)) y = 0 := by rw [← q_co']; exact hyw.2
      have hyn : y ∉ (log s).filterMap (fun e => e.2.2) := fun q => grl_in hy2 q hco0
      have hyT : T y ∧ isW s y := by
        rcases hy with q | q
        · refine ⟨q, t1 y q, ?_⟩
          rw [← k4 y (t1 y q)]
          exact grl_W hco0
        · exfalso
          have := grl_W hco0
          rw [k5 y q.1 q.2, if_neg htr] at this
          omega
      have := t5 (fun z => C z ∨ ¬ isW (qrl t) z) ?_ y hyT.1 hyT.2
      · rcases this with q | q
        · exact q
        · exact absurd hyw q
      · intro z i w hz hi hg hq
        by_cases el : lg s z i = 0
        · have hf := hL.1 z i hz hi el
          have hz2 : sta (qrl t) z = 2 := k2 z hz
          have hi' : i < sz (qrl t) z := by rw [q_sz]; exact hi
          rw [hg] at hf
          left
          rcases hq with q | q | ⟨q1, q2, q3⟩
          · omega
          · exact hCl z i w hz2 hi' hf (Or.inr (Or.inl (by rw [q_co']; exact grl_grey (by rw [k4 z hz]; exact q))))
          · by_cases e0 : co (qrl t) z = 0
            · have hzw : isW (qrl t) z := ⟨hz2, e0⟩
              rcases q1 with q1 | q1
              · exact hCl z i w hz2 hi' hf (Or.inr (Or.inr ⟨q1, hzw, Or.inl q3⟩))
              · exact absurd hzw q1
            · refine hCl z i w hz2 hi' hf (Or.inr (Or.inl ?_))
              rw [q_co'] at e0 ⊢
              exact (grl_new (s := t) ⟨hz2, by rw [k4 z hz]; exact q2.2⟩ e0).1
        · right
          intro hww
          have hm := olds_mem z i w hz hi el hg
          have := hww.2
          rw [q_co'] at this
          exact grl_in (s := t) hww.1 hm this
  · rw [q_tr]
    intro htr y hy
    obtain ⟨-, -, t3, -, -⟩ := hT.2 htr
    left
    refine t3 y ?_
    rw [q_row] at hy
    rcases List.mem_append.mp hy with q | q
    · unfold bfs at q
      obtain ⟨r, hr, e⟩ := List.mem_filterMap.mp q
      exact hS.2.1 r y (List.mem_range.mp hr) e
    · obtain ⟨x, i, hx, hi, -, hg⟩ := mem_olds y q
      exact hS.2.2.1 x i y hx hi hg
  · intro x i hx hi
    rw [q_sz] at hi
    exact lg0 x i hx hi
