/-! Steps of the trace keep what holds between the calls -/
theorem inv_gdS {s : St} {β : Nat → Option Nat} (h : Inv s β) : gdS s := by
  obtain ⟨g, S, T, ⟨hw, hb, ha, hl, hr⟩, hL, hC, hS, hT⟩ := h
  refine ⟨hw, hb, ha, fun x i y hx hi hf => ?_⟩
  rcases ha x hx with ⟨w, -⟩ | ⟨w, -⟩
  · rcases hS.2.2.2.2.2 x i y (Or.inr w) hi hf with q | q
    · have := hS.1 y q; omega
    · omega
  · by_cases e : lg s x i = 0
    · rw [hL.1 x i w hi e] at hf
      have := hC.1 x i y w hi hf
      omega
    · have q := (hL.2.1 _ _ _ (hL.2.2.1 x i w hi e)).1
      rcases hS.2.2.2.2.2 x i y (Or.inl q) hi hf with q | q
      · have := hS.1 y q; omega
      · omega
theorem grl_grey {s : St} {l : List Nat} {y : Nat} (h : co s y = 1) : grl s l y = 1 := by
  unfold grl
  split
  · rfl
  · exact h
theorem grl_ne0 {s : St} {l : List Nat} {y : Nat} (h : ¬ co s y = 0) : grl s l y = co s y := by
  unfold grl
  exact if_neg (fun q => h q.2.2)
theorem grl_new {s : St} {l : List Nat} {y : Nat} (h : isW s y) (h2 : ¬ grl s l y = 0) : grl s l y = 1 ∧ y ∈ l := by
  unfold grl at h2 ⊢
  by_cases q : y ∈ l ∧ sta s y = 2 ∧ co s y = 0
  · rw [if_pos q]; exact ⟨rfl, q.1⟩
  · rw [if_neg q] at h2
    exact absurd h.2 h2
theorem grl_in {s : St} {l : List Nat} {y : Nat} (h2 : sta s y = 2) (h : y ∈ l) : ¬ grl s l y = 0 := by
  unfold grl
  by_cases q : y ∈ l ∧ sta s y = 2 ∧ co s y = 0
  · rw [if_pos q]; omega
  · rw [if_neg q]
    exact fun e => q ⟨h, h2, e⟩
theorem grl_W {s : St} {l : List Nat} {y : Nat} (h : grl s l y = 0) : co s y = 0 := by
  unfold grl at h
  by_cases q : y ∈ l ∧ sta s y = 2 ∧ co s y = 0
  · rw [if_pos q] at h; omega
  · rw [if_neg q] at h; exact h
theorem grl_yg {s : St} {l : List Nat} {y : Nat} (h : sta s y = 1) : grl s l y = co s y := by
  unfold grl
  exact if_neg (fun q => by omega)
theorem inv_blk {s : St} {β : Nat → Option Nat} (h : Inv s β) {x : Nat} (h2 : sta s x = 2) (h1 : co s x = 1) : Inv (blk s x) β := by
  have hgs := inv_gdS h
  obtain ⟨g, S, T, ⟨hw, hb, ha, hl, hr⟩, hL, hC, hS, hT⟩ := h
  have htr : tr s ≠ 0 := fun e => by
    have := hT.1 e x h2
    omega
  obtain ⟨t1, t2, t3, t4, t5⟩ := hT.2 htr
  have hxT := t2 x h2 (by omega)
  have e_co : co (blk s x) = grl (blt s x) (hlds s x (sz s x)) := rfl
  have e_bt : ∀ y, y ≠ x → co (blt s x) y = co s y := fun y e => up_ne e
  have e_bx : co (blt s x) x = 2 := up_self _ _ _
  have e_x : co (blk s x) x = 2 := by
    rw [e_co, grl_ne0 (by rw [e_bx]; omega), e_bx]
  refine ⟨g, S, T, ⟨hw.ext rfl (fun _ => Iff.rfl) rfl rfl rfl rfl, ⟨hb.1, hb.2.1, grl_le (blt_le hb x), hb.2.2.2⟩, ?_, hl, hr⟩, hL, hC, hS, fun e => absurd e htr, fun _ => ⟨t1, ?_, t3, t4, ?_⟩⟩
  · intro y hy
    rcases ha y hy with ⟨w1, w2, w3⟩ | w
    · refine Or.inl ⟨w1, w2, ?_⟩
      rw [e_co, grl_yg (s := blt s x) w1, e_bt y (fun e => by subst e; omega)]
      exact w3
    · exact Or.inr w
  · intro y hy hco
    have hy2 : sta s y = 2 := hy
    by_cases e : y = x
    · subst e; exact hxT
    · by_cases e0 : co s y = 0
      · rw [e_co] at hco
        obtain ⟨-, q⟩ := grl_new (s := blt s x) ⟨hy2, (e_bt y e).trans e0⟩ hco
        obtain ⟨i, hi, hf⟩ := hlds_mem.mp q
        by_cases el : lg s x i = 0
        · rw [hL.1 x i h2 hi el] at hf
          exact t4 x i y hxT hi hf
        · have q := (hL.2.1 _ _ _ (hL.2.2.1 x i h2 hi el)).1
          rcases hS.2.2.2.2.2 x i y (Or.inl q) hi hf with q | q
          · exact t3 y q
          · omega
      · exact t2 y hy2 e0
  · intro C hCl y hy hyw
    have hyx : y ≠ x := fun e => by
      subst e
      have := hyw.2
      omega
    have hyW : isW s y := by
      have := hyw.2
      rw [e_co] at this
      have := grl_W this
      rw [e_bt y hyx] at this
      exact ⟨hyw.1, this⟩
    have := t5 (fun z => C z ∨ ¬ isW (blk s x) z) ?_ y hy hyW
    · rcases this with q | q
      · exact q
      · exact absurd hyw q
    · intro z i w hz hi hg hq
      by_cases e : z = x
      · subst e
        by_cases el : lg s z i = 0
        · right
          intro hww
          have hf := hL.1 z i hz hi el
          rw [hg] at hf
          exact grl_in (s := blt s z) hww.1 (hlds_mem.mpr ⟨i, hi, hf⟩) hww.2
        · left
          refine hCl z i w hz hi hg (Or.inl ?_)
          have := (hL.2.1 _ _ _ (hL.2.2.1 z i hz hi el)).2.2.1
          exact this
      · left
        rcases hq with q | q | ⟨q1, q2, q3⟩
        · exact hCl z i w hz hi hg (Or.inl q)
        · exact hCl z i w hz hi hg (Or.inr (Or.inl (by rw [e_co]; exact grl_grey ((e_bt z e).trans q))))
        · by_cases e0 : co (blk s x) z = 0
          · have hzw : isW (blk s x) z := ⟨hz, e0⟩
            rcases q1 with q1 | q1
            · exact hCl z i w hz hi hg (Or.inr (Or.inr ⟨q1, hzw, q3⟩))
            · exact absurd hzw q1
          · refine hCl z i w hz hi hg (Or.inr (Or.inl ?_))
            rw [e_co] at e0 ⊢
            exact (grl_new (s := blt s x) ⟨hz, (e_bt z e).trans q2.2⟩ e0).1
theorem st1_is {s : St} (hw : Wf s) (h : ¬ noG s) : ∃ x, sta s x = 2 ∧ co s x = 1 ∧ st1 s = blk s x := by
  cases hl : lst (gry s) 128 0 with
  | none => exact absurd hl h
  | some a =>
    obtain ⟨x, ho, h2, h1⟩ := (lst_some hl).1
    exact ⟨x, h2, h1, st1_some hl ho⟩
theorem inv_stI {β : Nat → Option Nat} : ∀ s, Inv s β → gdS s ∧ (¬ noG s → Inv (st1 s) β) := by
  intro s h
  refine ⟨inv_gdS h, fun hn => ?_⟩
  obtain ⟨x, h2, h1, e⟩ := st1_is (inv_gdS h).1 hn
  rw [e]
  exact inv_blk h h2 h1
theorem inv_stN {s : St} {β : Nat → Option Nat} (h : Inv s β) (n : Nat) : Inv (stN n s) β := stN_keep inv_stI n s h
def cpot (s : St) : Nat := sm (fun x => 2 - co s x) 256
theorem blk_pot {s : St} (hb : Bd s) {x : Nat} (hx : x < 256) (h2 : sta s x = 2) (h1 : co s x = 1) : cpot (blk s x) + 1 ≤ cpot s := by
  have h := sm_up (f := fun x => 2 - co s x) (v := 0) hx
  rw [h1, Nat.add_zero] at h
  have h' : cpot (blk s x) ≤ sm (up (fun x => 2 - co s x) x 0) 256 := by
    refine sm_le (fun y hy => ?_)
    have e_co : co (blk s x) = grl (blt s x) (hlds s x (sz s x)) := rfl
    by_cases e : y = x
    · subst e
      rw [up_self, e_co, grl_ne0 (by rw [blt_co, up_self]; omega), blt_co, up_self]
      omega
    · rw [up_ne e, e_co]
      by_cases e0 : co (blt s x) y = 0
      · rw [blt_co, up_ne e] at e0
        rw [e0]
        omega
      · rw [grl_ne0 e0, blt_co, up_ne e]
        omega
  unfold cpot at h' ⊢
  omega
theorem st_end {β : Nat → Option Nat} : ∀ (p : Nat) (s : St), Inv s β → cpot s ≤ p → noG (stN p s) := by
  intro p
  induction p with
  | zero =>
    intro s h hp
    by_cases e : noG s
    · rw [stN_nil e]; exact e
    · exfalso
      obtain ⟨x, h2, h1, -⟩ := st1_is (inv_gdS h).1 e
      have hgs := inv_gdS h
      have := blk_pot hgs.2.1 (hgs.1.lt (show sta s x ≠ 0 by omega)) h2 h1
      omega
  | succ p ih =>
    intro s h hp
    by_cases e : noG s
    · rw [stN_nil e]; exact e
    · rw [stN_s e]
      obtain ⟨x, h2, h1, hq⟩ := st1_is (inv_gdS h).1 e
      have hgs := inv_gdS h
      have := blk_pot hgs.2.1 (hgs.1.lt (show sta s x ≠ 0 by omega)) h2 h1
      refine ih _ ((inv_stI s h).2 e) ?_
      rw [hq]
      omega
theorem st_512 {s : St} {β : Nat → Option Nat} (h : Inv s β) : noG (stN 512 s) := by
  refine st_end 512 s h ?_
  have h1 : sm (fun x => 2 - co s x) 256 ≤ sm (fun _ => 1 + 1) 256 := sm_le (fun x _ => by omega)
  have h2 := sm_add (fun _ => 1) (fun _ => 1) 256
  have h3 := sm_1s 256
  unfold cpot
  omega
theorem blk_same (s : St) (x : Nat) : bf (blk s x) = bf s ∧ rt (blk s x) = rt s ∧ cl (blk s x) = cl s ∧ lf (blk s x) = lf s ∧ tr (blk s x) = tr s := ⟨rfl, rfl, rfl, rfl, rfl⟩
theorem st1_same (s : St) : bf (st1 s) = bf s ∧ rt (st1 s) = rt s ∧ cl (st1 s) = cl s ∧ lf (st1 s) = lf s ∧ tr (st1 s) = tr s := by
  cases hl : lst (gry s) 128 0 with
  | none => rw [st1_none hl]; exact ⟨rfl, rfl, rfl, rfl, rfl⟩
  | some a =>
    obtain ⟨x, ho, h2, h1⟩ := (lst_some hl).1
    rw [st1_some hl ho]
    exact blk_same s x
theorem stN_same : ∀ (n : Nat) (s : St), bf (stN n s) = bf s ∧ rt (stN n s) = rt s ∧ cl (stN n s) = cl s ∧ lf (stN n s) = lf s ∧ tr (stN n s) = tr s := by
  intro n
  induction n with
  | zero => intro s; exact ⟨rfl, rfl, rfl, rfl, rfl⟩
  | succ n ih =>
    intro s
    by_cases e : noG s
    · rw [stN_nil e]; exact ⟨rfl, rfl, rfl, rfl, rfl⟩
    · rw [stN_s e]
      obtain ⟨a1, a2, a3, a4, a5⟩ := ih (st1 s)
      obtain ⟨b1, b2, b3, b4, b5⟩ := st1_same s
      exact ⟨a1.trans b1, a2.trans b2, a3.trans b3, a4.trans b4, a5.trans b5⟩
