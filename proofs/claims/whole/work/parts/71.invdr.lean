/-! Decrements keep what holds between the calls -/
theorem Ag.ct1 {s : St} (ha : Ag s) {x : Nat} (h : sta s x = 2) : 1 ≤ ct s x := by
  rcases ha x (by omega) with ⟨w, -⟩ | ⟨-, w⟩
  · omega
  · exact w
theorem vcol_W {s : St} {x k y : Nat} (h : sta s y = 2 ∧ vcol s x k y = 0) : isW s y := by
  unfold vcol at h
  by_cases e : co s x = 1
  · rw [if_pos e] at h
    unfold grl at h
    by_cases q : y ∈ hlds s x k ∧ sta s y = 2 ∧ co s y = 0
    · exact q.2
    · rw [if_neg q] at h
      exact h
  · rw [if_neg e] at h
    exact h
theorem vcol_grey {s : St} {x k y : Nat} (h : co s y = 1) : vcol s x k y = 1 := by
  unfold vcol
  split
  · unfold grl
    split
    · rfl
    · exact h
  · exact h
theorem vcol_new {s : St} {x k y : Nat} (h : isW s y) (h2 : ¬ vcol s x k y = 0) : vcol s x k y = 1 ∧ co s x = 1 ∧ y ∈ hlds s x k := by
  unfold vcol at h2 ⊢
  by_cases e : co s x = 1
  · rw [if_pos e] at h2 ⊢
    unfold grl at h2 ⊢
    by_cases q : y ∈ hlds s x k ∧ sta s y = 2 ∧ co s y = 0
    · rw [if_pos q]
      exact ⟨rfl, e, q.1⟩
    · rw [if_neg q] at h2
      exact absurd h.2 h2
  · rw [if_neg e] at h2
    exact absurd h.2 h2
theorem vcol_le {s : St} {x k : Nat} (h : ∀ x, co s x ≤ 2) : ∀ y, vcol s x k y ≤ 2 := by
  intro y
  unfold vcol
  split
  · exact grl_le h y
  · exact h y
theorem vcol_ne0 {s : St} {x k y : Nat} (h : ¬ co s y = 0) : vcol s x k y = co s y := by
  unfold vcol
  split
  · unfold grl
    exact if_neg (fun q => h q.2.2)
  · rfl
/-- an object that nothing holds but itself, with its fields as they were, goes: its fields wait -/
theorem inv_van {s u : St} {β : Nat → Option Nat} {g : Nat → Nat → Option Nat} {S T : Nat → Prop} {x : Nat} {l : List Nat} (hw : Wf s) (hb : Bd s) (ha : Ag s) (hl : l.length + osz s ≤ 262) (hL : IG s g S) (hd : ∀ x i y, sta s x = 2 → i < sz s x → g x i = some y → sta s y = 2) (hS : IS s β g S) (hT : IT s g S T)
    (h2 : sta s x = 2) (hu : u = urow (uct s (up (ct s) x 0)) l) (hc : ∀ y, y ≠ x → sta s y = 2 → ct s y < 3 → fc β y 6 + hG s g y + l.count y = ct s y) (hm : ∀ y, y ∈ l → sta s y = 2)
    (k1 : ∀ y i, sta s y = 2 → i < sz s y → g y i ≠ some x) (k2 : x ∉ l) (k3 : ¬ S x) : ∃ T', I0 (van u x) ∧ IG (van u x) g S ∧ IC (van u x) β g ∧ IS (van u x) β g S ∧ IT (van u x) g S T' := by
  have hx := hw.lt (show sta s x ≠ 0 by omega)
  have hsz := hw.sz12 (show sta s x ≠ 0 by omega)
  have hwu : Wf u := by subst hu; exact hw.ext rfl (fun _ => Iff.rfl) rfl rfl rfl rfl
  have e_sta : sta (van u x) = up (sta s) x 0 := by subst hu; rfl
  have e_sz : sz (van u x) = sz s := by subst hu; rfl
  have e_lg : lg (van u x) = lg s := by subst hu; rfl
  have e_fl : fl (van u x) = fl s := by subst hu; rfl
  have e_log : log (van u x) = log s := by subst hu; rfl
  have e_rt : rt (van u x) = rt s := by subst hu; rfl
  have e_tr : tr (van u x) = tr s := by subst hu; rfl
  have e_ct : ct (van u x) = up (ct s) x 0 := by subst hu; rfl
  have e_row : row (van u x) = l ++ hlds s x (sz s x) := by subst hu; rfl
  have e_co : co (van u x) = vcol s x (sz s x) := by subst hu; rfl
  have hwv : Wf (van u x) := by
    refine wf_los (hwu.ext (t := uco (urow u (row u ++ hlds u x (sz u x))) (vcol u x (sz u x))) rfl (fun _ => Iff.rfl) rfl rfl rfl rfl) (x := x) ?_
    subst hu
    show sta s x ≠ 0
    omega
  have st2 : ∀ y, sta (van u x) y = 2 ↔ (sta s y = 2 ∧ y ≠ x) := by
    intro y
    rw [e_sta]
    by_cases e : y = x
    · subst e
      rw [up_self]
      exact ⟨fun z => by omega, fun z => absurd rfl z.2⟩
    · rw [up_ne e]
      exact ⟨fun z => ⟨z, e⟩, fun z => z.1⟩
  have st1 : ∀ y, sta (van u x) y = 1 ↔ sta s y = 1 := by
    intro y
    rw [e_sta]
    by_cases e : y = x
    · subst e
      rw [up_self]
      exact ⟨fun z => by omega, fun z => by omega⟩
    · rw [up_ne e]
  have hf : ∀ i, i < sz s x → lg s x i = 0 ∧ fl s x i = g x i := fun i hi => unlogged hL h2 k3 hi
  have hfm : ∀ y, y ∈ hlds s x (sz s x) → sta s y = 2 ∧ y ≠ x := by
    intro y hy
    obtain ⟨i, hi, hfi⟩ := hlds_mem.mp hy
    rw [(hf i hi).2] at hfi
    exact ⟨hd x i y h2 hi hfi, fun e => k1 x i h2 hi (by rw [hfi, e])⟩
  refine ⟨fun y => T y ∧ y ≠ x, ⟨hwv, ⟨?_, ?_, ?_, ?_⟩, ?_, ?_, ?_⟩, ⟨?_, ?_, ?_, ?_, ?_⟩, ⟨?_, ?_⟩, ⟨?_, ?_, ?_, ?_, ?_, ?_⟩, ?_, ?_⟩
  · intro y
    rw [e_sta, up_eq]
    split
    · omega
    · exact hb.1 y
  · intro y
    rw [e_ct, up_eq]
    split
    · omega
    · exact hb.2.1 y
  · intro y
    rw [e_co]
    exact vcol_le hb.2.2.1 y
  · rw [e_tr]; exact hb.2.2.2
  · intro y hy
    rw [e_sta] at hy
    have e : y ≠ x := fun e => hy (by rw [e, up_self])
    rw [up_ne e] at hy
    rw [e_sta, e_ct, e_co, up_ne e, up_ne e]
    rcases ha y hy with ⟨w1, w2, w3⟩ | w
    · refine Or.inl ⟨w1, w2, ?_⟩
      unfold vcol
      split
      · unfold grl
        rw [if_neg (fun q => by omega)]
        exact w3
      · exact w3
    · exact Or.inr w
  · have := osz_rm hx h2 e_sta e_sz
    have := hlds_len s x (sz s x)
    rw [e_row, List.length_append]
    omega
  · intro y hy
    rw [e_row, List.mem_append] at hy
    rw [st2]
    rcases hy with hy | hy
    · exact ⟨hm y hy, fun e => k2 (e ▸ hy)⟩
    · exact hfm y hy
  · intro y i hy hi hlg
    rw [e_fl]
    rw [e_sz] at hi
    rw [e_lg] at hlg
    exact hL.1 y i ((st2 y).mp hy).1 hi hlg
  · intro y i o hy
    rw [e_log] at hy
    rw [e_sz, e_lg]
    exact hL.2.1 y i o hy
  · intro y i hy hi hlg
    rw [e_log]
    rw [e_sz] at hi
    rw [e_lg] at hlg
    exact hL.2.2.1 y i ((st2 y).mp hy).1 hi hlg
  · rw [e_log]; exact hL.2.2.2.1
  · intro y i hy
    rw [e_lg]
    exact hL.2.2.2.2 y i ((st1 y).mp hy)
  · intro z i y hz hi hg
    rw [e_sz] at hi
    have hz2 := ((st2 z).mp hz).1
    rw [st2]
    exact ⟨hd z i y hz2 hi hg, fun e => k1 z i hz2 hi (by rw [hg, e])⟩
  · intro y hy hct
    obtain ⟨hy2, hyx⟩ := (st2 y).mp hy
    rw [e_ct, up_ne hyx] at hct ⊢
    rw [← hc y hyx hy2 hct]
    unfold Hn
    have := hG_rm (g := g) hx h2 e_sta e_sz y
    rw [e_row, List.count_append, hlds_count, fc_congr (fun i hi => (hf i hi).2)]
    omega
  · intro y hy
    rw [st2]
    exact ⟨hS.1 y hy, fun e => k3 (e ▸ hy)⟩
  · exact hS.2.1
  · rw [e_sz]; exact hS.2.2.1
  · rw [e_sz]; exact hS.2.2.2.1
  · intro r y hr hy
    rw [e_rt] at hy
    rw [st1]
    exact hS.2.2.2.2.1 r y hr hy
  · intro z i y hz hi hy
    rw [st1] at hz ⊢
    rw [e_sz] at hi
    rw [e_fl] at hy
    exact hS.2.2.2.2.2 z i y hz hi hy
  · intro ht y hy
    rw [e_tr] at ht
    have h0 := hT.1 ht
    rw [e_co, vcol_n (by rw [h0 x h2]; omega)]
    exact h0 y ((st2 y).mp hy).1
  · intro ht
    rw [e_tr] at ht
    obtain ⟨t1, t2, t3, t4, t5⟩ := hT.2 ht
    refine ⟨fun y hy => (st2 y).mpr ⟨t1 y hy.1, hy.2⟩, fun y hy hco => ?_, fun y hy => ⟨t3 y hy, fun e => k3 (e ▸ hy)⟩, fun z i y hz hi hg => ?_, fun C hC y hy hyw => ?_⟩
    · obtain ⟨hy2, hyx⟩ := (st2 y).mp hy
      refine ⟨?_, hyx⟩
      rw [e_co] at hco
      by_cases e : co s y = 0
      · obtain ⟨q1, q2, q3⟩ := vcol_new ⟨hy2, e⟩ hco
        obtain ⟨i, hi, hfi⟩ := hlds_mem.mp q3
        rw [(hf i hi).2] at hfi
        exact t4 x i y (t2 x h2 (by omega)) hi hfi
      · exact t2 y hy2 e
    · rw [e_sz] at hi
      exact ⟨t4 z i y hz.1 hi hg, fun e => k1 z i (t1 z hz.1) hi (by rw [hg, e])⟩
    · have hxT : isW s x → ¬ T x := by
        intro hxw hxT
        refine t5 (fun z => z ≠ x) ?_ x hxT hxw rfl
        intro z i w hz hi hg _ e
        exact k1 z i hz hi (by rw [hg, e])
      have hyW : isW s y := by
        have := hyw
        unfold isW at this
        rw [st2, e_co] at this
        exact vcol_W ⟨this.1.1, this.2⟩
      have := t5 (fun z => C z ∨ ¬ isW (van u x) z) ?_ y hy.1 hyW
      · rcases this with q | q
        · exact q
        · exact absurd hyw q
      · intro z i w hz hi hg hq
        by_cases e : z = x
        · subst e
          rcases hq with q | q | q
          · rw [(hf i hi).1] at q; omega
          · refine Or.inr (fun ww => ?_)
            unfold isW at ww
            rw [e_co] at ww
            have w2 := hd z i w hz hi hg
            by_cases e0 : co s w = 0
            · have hin : w ∈ hlds s z (sz s z) := hlds_mem.mpr ⟨i, hi, by rw [(hf i hi).2]; exact hg⟩
              have : vcol s z (sz s z) w = 1 := by
                rw [vcol_1 q]
                unfold grl
                exact if_pos ⟨hin, w2, e0⟩
              omega
            · rw [vcol_ne0 e0] at ww
              exact e0 ww.2
          · exact absurd q.2.2 (hxT q.2.1)
        · have hz' : sta (van u x) z = 2 := (st2 z).mpr ⟨hz, e⟩
          have hi' : i < sz (van u x) z := by rw [e_sz]; exact hi
          left
          rcases hq with q | q | ⟨q1, q2, q3⟩
          · exact hC z i w hz' hi' hg (Or.inl (by rw [e_lg]; exact q))
          · exact hC z i w hz' hi' hg (Or.inr (Or.inl (by rw [e_co]; exact vcol_grey q)))
          · by_cases e0 : vcol s x (sz s x) z = 0
            · have hzw : isW (van u x) z := ⟨hz', by rw [e_co]; exact e0⟩
              rcases q1 with q1 | q1
              · exact hC z i w hz' hi' hg (Or.inr (Or.inr ⟨q1, hzw, q3, e⟩))
              · exact absurd hzw q1
            · exact hC z i w hz' hi' hg (Or.inr (Or.inl (by rw [e_co]; exact (vcol_new q2 e0).1)))
theorem inv_dr1 {s : St} {β : Nat → Option Nat} (h : Inv s β) (hne : row s ≠ []) : Inv (dr1 s) β := by
  have hgd := inv_gdD h
  obtain ⟨x, l, hrow⟩ := row_pos hne
  obtain ⟨g, S, T, ⟨hw, hb, ha, hl, hr⟩, hL, hC, hS, hT⟩ := h
  have h2 : sta s x = 2 := hr x (by rw [hrow]; exact List.mem_cons_self)
  have hl1 := hl
  rw [hrow, List.length_cons] at hl1
  have hrl : ∀ y, y ∈ l → sta s y = 2 := fun y hy => hr y (by rw [hrow]; exact List.mem_cons_of_mem _ hy)
  by_cases h3 : ct s x = 3
  · rw [dr1_3 hrow h3]
    refine ⟨g, S, T, ⟨hw.ext rfl (fun _ => Iff.rfl) rfl rfl rfl rfl, hb, ha, ?_, hrl⟩, hL, ⟨hC.1, ?_⟩, hS, hT⟩
    · show l.length + osz s ≤ 262
      omega
    · intro y hy hct
      have := hC.2 y hy hct
      unfold Hn at this ⊢
      have e : y ≠ x := fun e => by
        have hct' : ct s y < 3 := hct
        rw [e, h3] at hct'
        omega
      rw [hrow, List.count_cons_of_ne (fun z => e z.symm)] at this
      exact this
  · by_cases h1 : ct s x = 1
    · rw [dr1_1 hrow h1]
      obtain ⟨k1, k2, k3, k4⟩ := lone hw hC hS hrow h2 h1
      have hcc : ∀ y, y ≠ x → sta s y = 2 → ct s y < 3 → fc β y 6 + hG s g y + l.count y = ct s y := by
        intro y hyx hy hct
        have := hC.2 y hy hct
        unfold Hn at this
        rw [hrow, List.count_cons_of_ne (fun z => hyx z.symm)] at this
        exact this
      obtain ⟨T', hI⟩ := inv_van (l := l) (u := uct (urow s l) (up (ct s) x 0)) hw hb ha (by omega) hL hC.1 hS hT h2 rfl hcc hrl k2 k3 k4
      exact ⟨g, S, T', hI⟩
    · rw [dr1_2 hrow h3 h1]
      have hc1 := ha.ct1 h2
      have hc3 := hb.2.1 x
      refine ⟨g, S, T, ⟨hw.ext rfl (fun _ => Iff.rfl) rfl rfl rfl rfl, ⟨hb.1, ?_, hb.2.2⟩, ?_, ?_, hrl⟩, hL, ⟨hC.1, ?_⟩, hS, hT⟩
      · intro y
        show up (ct s) x (ct s x - 1) y ≤ 3
        rw [up_eq]
        split
        · omega
        · exact hb.2.1 y
      · intro y hy
        show (sta s y = 1 ∧ up (ct s) x (ct s x - 1) y = 0 ∧ co s y = 0) ∨ (sta s y = 2 ∧ 1 ≤ up (ct s) x (ct s x - 1) y)
        by_cases e : y = x
        · subst e
          rw [up_self]
          exact Or.inr ⟨h2, by omega⟩
        · rw [up_ne e]
          exact ha y hy
      · show l.length + osz s ≤ 262
        omega
      · intro y hy hct
        have hct' : up (ct s) x (ct s x - 1) y < 3 := hct
        show fc β y 6 + hG s g y + l.count y = up (ct s) x (ct s x - 1) y
        by_cases e : y = x
        · subst e
          have := hC.2 y hy (by omega)
          unfold Hn at this
          rw [hrow, List.count_cons_self] at this
          rw [up_self]
          omega
        · rw [up_ne e] at hct' ⊢
          have := hC.2 y hy hct'
          unfold Hn at this
          rw [hrow, List.count_cons_of_ne (fun z => e z.symm)] at this
          exact this
theorem dr1_pot {s : St} {β : Nat → Option Nat} (h : Inv s β) (hne : row s ≠ []) : (row (dr1 s)).length + osz (dr1 s) + 1 ≤ (row s).length + osz s := by
  obtain ⟨x, l, hrow⟩ := row_pos hne
  obtain ⟨g, S, T, ⟨hw, hb, ha, hl, hr⟩, hL, hC, hS, hT⟩ := h
  have h2 : sta s x = 2 := hr x (by rw [hrow]; exact List.mem_cons_self)
  have hlen : (row s).length = l.length + 1 := by rw [hrow, List.length_cons]
  by_cases h3 : ct s x = 3
  · rw [dr1_3 hrow h3]
    show l.length + osz s + 1 ≤ _
    omega
  · by_cases h1 : ct s x = 1
    · rw [dr1_1 hrow h1]
      have e := osz_rm (s := s) (t := van (uct (urow s l) (up (ct s) x 0)) x) (hw.lt (by omega)) h2 rfl rfl
      have e2 := hlds_len s x (sz s x)
      have e3 : (row (van (uct (urow s l) (up (ct s) x 0)) x)).length = l.length + (hlds s x (sz s x)).length := by
        rw [← List.length_append]
        rfl
      omega
    · rw [dr1_2 hrow h3 h1]
      show l.length + osz s + 1 ≤ _
      omega
theorem dr_end {β : Nat → Option Nat} : ∀ (p : Nat) (s : St), Inv s β → (row s).length + osz s ≤ p → row (drN p s) = [] := by
  intro p
  induction p with
  | zero =>
    intro s h hp
    exact List.eq_nil_of_length_eq_zero (by show (row s).length = 0; omega)
  | succ p ih =>
    intro s h hp
    by_cases e : row s = []
    · rw [drN_nil e]; exact e
    · rw [drN_s e]
      have := dr1_pot h e
      exact ih _ (inv_dr1 h e) (by omega)
theorem dr_262 {s : St} {β : Nat → Option Nat} (h : Inv s β) : row (drN 262 s) = [] := by
  refine dr_end 262 s h ?_
  obtain ⟨g, S, T, ⟨hw, hb, ha, hl, hr⟩, -⟩ := h
  exact hl
theorem inv_drI {β : Nat → Option Nat} : ∀ s, Inv s β → gdD s ∧ (row s ≠ [] → Inv (dr1 s) β) := fun _ h => ⟨inv_gdD h, inv_dr1 h⟩
theorem inv_drN {s : St} {β : Nat → Option Nat} (h : Inv s β) (n : Nat) : Inv (drN n s) β := drN_keep inv_drI n s h
theorem dr1_same (s : St) : bf (dr1 s) = bf s ∧ rt (dr1 s) = rt s ∧ cl (dr1 s) = cl s ∧ lf (dr1 s) = lf s ∧ tr (dr1 s) = tr s := by
  cases hrow : row s with
  | nil =>
    have : dr1 s = s := by unfold dr1; rw [hrow]
    rw [this]
    exact ⟨rfl, rfl, rfl, rfl, rfl⟩
  | cons x l =>
    by_cases h3 : ct s x = 3
    · rw [dr1_3 hrow h3]; exact ⟨rfl, rfl, rfl, rfl, rfl⟩
    · by_cases h1 : ct s x = 1
      · rw [dr1_1 hrow h1]; exact ⟨rfl, rfl, rfl, rfl, rfl⟩
      · rw [dr1_2 hrow h3 h1]; exact ⟨rfl, rfl, rfl, rfl, rfl⟩
theorem drN_same : ∀ (n : Nat) (s : St), bf (drN n s) = bf s ∧ rt (drN n s) = rt s ∧ cl (drN n s) = cl s ∧ lf (drN n s) = lf s ∧ tr (drN n s) = tr s := by
  intro n
  induction n with
  | zero => intro s; exact ⟨rfl, rfl, rfl, rfl, rfl⟩
  | succ n ih =>
    intro s
    by_cases e : row s = []
    · rw [drN_nil e]; exact ⟨rfl, rfl, rfl, rfl, rfl⟩
    · rw [drN_s e]
      obtain ⟨a1, a2, a3, a4, a5⟩ := ih (dr1 s)
      obtain ⟨b1, b2, b3, b4, b5⟩ := dr1_same s
      exact ⟨a1.trans b1, a2.trans b2, a3.trans b3, a4.trans b4, a5.trans b5⟩
