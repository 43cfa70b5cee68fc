/-! The slots counted, what is young lost, the row and the log settled -/
def CJe (s0 : St) (Hb : Nat → Nat) (S : Nat → Prop) (s : St) (rest : List (Option Nat)) (N : Nat) : Prop := ∃ done, (done ++ rest).length = N ∧ CJ s0 Hb S s done rest
theorem cj_J {s0 : St} {Hb : Nat → Nat} {S : Nat → Prop} (h0 : CJ0 s0 Hb S) : ∀ s rest N, CJe s0 Hb S s rest N → gdC s rest N ∧ ∀ v l, rest = v :: l → CJe s0 Hb S (cs1 s v) (l ++ nsl s v) (N + (nsl s v).length) := by
  rintro s rest N ⟨done, hN, h⟩
  refine ⟨hN ▸ cj_gdC h0 h, fun v l hr => ?_⟩
  subst hr
  refine ⟨done ++ [v], ?_, cj_step h0 h⟩
  rw [← hN]
  simp
  omega
theorem cs1_pot {s0 : St} {Hb : Nat → Nat} {S : Nat → Prop} (h0 : CJ0 s0 Hb S) {s : St} {done l : List (Option Nat)} {v : Option Nat} (h : CJ s0 Hb S s done (v :: l)) : (nsl s v).length + ysz (cs1 s v) = ysz s := by
  have hg := cj_gdC h0 h
  cases v with
  | none =>
    show 0 + ysz s = ysz s
    omega
  | some x =>
    have hlive := hg.2.2.2.2.1 x List.mem_cons_self
    by_cases h1x : sta s x = 1
    · rw [show cs1 s (some x) = sv s x from if_pos h1x, show nsl s (some x) = fL s x (sz s x) from if_pos h1x, fL_len]
      have := ysz_rm (hg.1.lt hlive) h1x (sv_sta s x) (shf_same (svA s x) x).2.1
      omega
    · rw [show cs1 s (some x) = uct s (up (ct s) x (if ct s x < 3 then ct s x + 1 else 3)) from if_neg h1x, show nsl s (some x) = [] from if_neg h1x]
      show 0 + ysz s = ysz s
      omega
theorem cj_end {s0 : St} {Hb : Nat → Nat} {S : Nat → Prop} (h0 : CJ0 s0 Hb S) : ∀ (f : Nat) (s : St) (done rest : List (Option Nat)) (n : Nat), CJ s0 Hb S s done rest → rest.length + ysz s ≤ f → csE f s rest ∧ ∃ done', CJ s0 Hb S (csN f s rest n).1 done' [] := by
  intro f
  induction f with
  | zero =>
    intro s done rest n h hf
    have : rest = [] := List.eq_nil_of_length_eq_zero (by omega)
    subst this
    exact ⟨rfl, done, h⟩
  | succ f ih =>
    intro s done rest n h hf
    cases rest with
    | nil => exact ⟨trivial, done, h⟩
    | cons v l =>
      have hp := cs1_pot h0 h
      have := ih (cs1 s v) (done ++ [v]) (l ++ nsl s v) (n + ny s v) (cj_step h0 h) (by rw [List.length_append]; rw [List.length_cons] at hf; omega)
      exact this
/-- what the roots lead to -/
def Rc (β : Nat → Option Nat) (f : Nat → Nat → Option Nat) (n : Nat → Nat) (y : Nat) : Prop := ∀ C : Nat → Prop, (∀ r x, r < 6 → β r = some x → C x) → (∀ x i z, C x → i < n x → f x i = some z → C z) → C y
theorem Rc.root {β : Nat → Option Nat} {f : Nat → Nat → Option Nat} {n : Nat → Nat} {r x : Nat} (hr : r < 6) (h : β r = some x) : Rc β f n x := fun _ h1 _ => h1 r x hr h
theorem Rc.step {β : Nat → Option Nat} {f : Nat → Nat → Option Nat} {n : Nat → Nat} {x i y : Nat} (hx : Rc β f n x) (hi : i < n x) (h : f x i = some y) : Rc β f n y := fun C h1 h2 => h2 x i y (hx C h1 h2) hi h
theorem Rc.sup {β : Nat → Option Nat} {f : Nat → Nat → Option Nat} {n : Nat → Nat} {y : Nat} (h : Rc β f n y) : (∃ r, r < 6 ∧ β r = some y) ∨ ∃ x i, Rc β f n x ∧ i < n x ∧ f x i = some y := by
  have := h (fun y => Rc β f n y ∧ ((∃ r, r < 6 ∧ β r = some y) ∨ ∃ x i, Rc β f n x ∧ i < n x ∧ f x i = some y)) (fun r x hr e => ⟨Rc.root hr e, Or.inl ⟨r, hr, e⟩⟩) (fun x i z hx hi e => ⟨hx.1.step hi e, Or.inr ⟨x, i, hx.1, hi, e⟩⟩)
  exact this.2
theorem cj_start {s : St} {g : Nat → Nat → Option Nat} {S T : Nat → Prop} (h0 : I0 s) (hL : IG s g S) (hC : IC s (bf s) g) (hS : IS s (bf s) g S) (hT : IT s g S T) (hrow : row s = []) : CJ0 s (Hn s (bf s) g) S ∧ CJ s (Hn s (bf s) g) S s [] (slt s) ∧ (slt s).length + ysz s ≤ 262 ∧ (log s).length ≤ 128 := by
  have hgs := inv_gdS ⟨g, S, T, h0, hL, hC, hS, hT⟩
  obtain ⟨hw, hb, ha, hl, hr⟩ := h0
  have hlen := log_len hw hS.1 hL
  have hoy := oysz hw
  have hsl : (slt s).length = 6 + (log s).length := by
    unfold slt
    rw [List.length_append, rL_len, lL_len (Nat.le_refl _)]
  refine ⟨⟨hS.1, fun y hy => ?_, hgs.2.2.2, fun x i y hx hi hf => hS.2.2.2.2.2 x i y (Or.inr hx) hi hf⟩, ⟨⟨hw, hb, ha⟩, ⟨rfl, rfl, rfl, rfl, rfl, rfl, rfl, rfl, rfl⟩, fun _ => Or.inl rfl, fun _ _ => rfl, fun x h1 h2 => by omega, fun y hy hc => ?_, fun y hy => (by cases hy), fun y => ?_, fun y hy => ?_, ?_⟩, ?_, ?_⟩
  · unfold Hn
    rw [hrow, fc_zero (fun r hr e => by have := hS.1 y (hS.2.1 r y hr e); omega)]
    have : hG s g y = 0 := by
      refine sm_zero (fun x _ => ?_)
      by_cases e : sta s x = 2
      · rw [if_pos e]
        exact fc_zero (fun i hi q => by have := hC.1 x i y e hi q; omega)
      · exact if_neg e
    rw [this]
    rfl
  · rw [← hC.2 y hy hc]
    rfl
  · have : gro s s y = 0 := sm_zero (fun x _ => if_neg (by omega))
    rw [this]
    rfl
  · have hy' : some y ∈ slt s := hy
    unfold slt rL lL at hy'
    rcases List.mem_append.mp hy' with q | q
    · obtain ⟨r, hr6, e⟩ := List.mem_map.mp q
      exact hS.2.2.2.2.1 r y (List.mem_range.mp hr6) e
    · rw [List.take_length] at q
      obtain ⟨⟨x, i, o⟩, he, e⟩ := List.mem_map.mp q
      have hh := hL.2.1 x i o he
      exact hS.2.2.2.2.2 x i y (Or.inl hh.1) hh.2.1 e
  · show (slt s).length + ysz s ≤ 262
    omega
  · omega
  · omega
theorem olds_count {g : Nat → Nat → Option Nat} {y : Nat} : ∀ L : List (Nat × Nat × Option Nat), (∀ x i o, (x, i, o) ∈ L → o = g x i) → (L.filterMap (fun e => e.2.2)).count y = lsm (fun x i => if g x i = some y then 1 else 0) L := by
  intro L
  induction L with
  | nil => intro _; rfl
  | cons e L ih =>
    intro h
    obtain ⟨a, b, o⟩ := e
    have h1 := h a b o List.mem_cons_self
    have h2 := ih (fun x i o ho => h x i o (List.mem_cons_of_mem _ ho))
    show _ = (if g a b = some y then 1 else 0) + lsm _ L
    rw [← h1, ← h2]
    cases o with
    | none => simp
    | some z =>
      by_cases w : z = y
      · subst w
        simp
        omega
      · simp [w]
theorem nows_count {f : Nat → Nat → Option Nat} {y : Nat} : ∀ L : List (Nat × Nat × Option Nat), (L.map (fun e => f e.1 e.2.1)).count (some y) = lsm (fun x i => if f x i = some y then 1 else 0) L := by
  intro L
  induction L with
  | nil => rfl
  | cons e L ih =>
    obtain ⟨a, b, o⟩ := e
    show (f a b :: L.map (fun e => f e.1 e.2.1)).count (some y) = (if f a b = some y then 1 else 0) + lsm _ L
    rw [List.count_cons, ih]
    by_cases w : f a b = some y
    · simp [w]
      omega
    · simp [w]
/-- fields now against fields at the last pause -/
theorem now_then {s : St} {g : Nat → Nat → Option Nat} {S : Nat → Prop} (hw : Wf s) (hS1 : ∀ y, S y → sta s y = 2) (hL : IG s g S) (y : Nat) : hG s (fl s) y + lsm (fun x i => if g x i = some y then 1 else 0) (log s) = hG s g y + lsm (fun x i => if fl s x i = some y then 1 else 0) (log s) := by
  rw [log_sum hw hS1 hL, log_sum hw hS1 hL]
  unfold hG
  rw [← sm_add, ← sm_add]
  refine sm_congr (fun x _ => ?_)
  by_cases h2 : sta s x = 2
  · simp only [if_pos h2]
    unfold fc
    rw [← sm_add, ← sm_add]
    refine sm_congr (fun i hi => ?_)
    by_cases e : lg s x i = 0
    · rw [hL.1 x i h2 hi e]
    · simp only [if_pos e]
      omega
  · simp only [if_neg h2]
noncomputable def cse (s : St) : St := lsQ (elf (csN 262 s (slt s) 0).1) (yg (elf (csN 262 s (slt s) 0).1))
noncomputable def stl (s : St) : St := qrl (cse s)
theorem elf_same (s : St) : sta (elf s) = sta s ∧ sz (elf s) = sz s ∧ ct (elf s) = ct s ∧ co (elf s) = co s ∧ fl (elf s) = fl s ∧ lg (elf s) = lg s ∧ rt (elf s) = rt s ∧ bf (elf s) = bf s ∧ row (elf s) = row s ∧ log (elf s) = log s ∧ tr (elf s) = tr s ∧ cl (elf s) = cl s := ⟨rfl, rfl, rfl, rfl, rfl, rfl, rfl, rfl, rfl, rfl, rfl, rfl⟩
theorem lsq_same (s : St) (Q : Nat → Prop) : sz (lsQ s Q) = sz s ∧ ct (lsQ s Q) = ct s ∧ co (lsQ s Q) = co s ∧ fl (lsQ s Q) = fl s ∧ lg (lsQ s Q) = lg s ∧ rt (lsQ s Q) = rt s ∧ bf (lsQ s Q) = bf s ∧ row (lsQ s Q) = row s ∧ log (lsQ s Q) = log s ∧ tr (lsQ s Q) = tr s ∧ cl (lsQ s Q) = cl s ∧ lf (lsQ s Q) = lf s := ⟨rfl, rfl, rfl, rfl, rfl, rfl, rfl, rfl, rfl, rfl, rfl, rfl⟩
/-- what the counted slots leave -/
theorem cse_is {s : St} {g : Nat → Nat → Option Nat} {S T : Nat → Prop} (h0 : I0 s) (hL : IG s g S) (hC : IC s (bf s) g) (hS : IS s (bf s) g S) (hT : IT s g S T) (hrow : row s = []) :
    csE 262 s (slt s) ∧ (Wf (cse s) ∧ Bd (cse s) ∧ Ag (cse s)) ∧ sameF s (cse s) ∧ (∀ l, lf (cse s) l = 0) ∧ (∀ x, sta (cse s) x ≠ 0 → sta (cse s) x = 2) ∧ (∀ x, sta s x = 2 → sta (cse s) x = 2) ∧ (∀ x, sta (cse s) x = 2 → sta s x = 2 ∨ sta s x = 1) ∧
    (∀ x, sta s x = 2 → co (cse s) x = co s x) ∧ (∀ x, sta s x = 1 → sta (cse s) x = 2 → co (cse s) x = if tr s = 0 then 0 else 2) ∧
    (∀ y, sta (cse s) y = 2 → ct (cse s) y < 3 → ct (cse s) y = Hn s (bf s) g y + (slt s).count (some y) + gro s (cse s) y) ∧
    (∀ y, 0 < (slt s).count (some y) + gro s (cse s) y → sta (cse s) y = 2) := by
  obtain ⟨hJ0, hJ, hb262, -⟩ := cj_start h0 hL hC hS hT hrow
  obtain ⟨hE, done, hJe⟩ := cj_end hJ0 262 s [] (slt s) 0 hJ hb262
  unfold cse
  generalize (csN 262 s (slt s) 0).1 = t at hJe ⊢
  obtain ⟨⟨hw, hb, ha⟩, ⟨e1, e2, e3, e4, e5, e6, e7, e8, e9⟩, h1, h2, h3, h4, h5, h6, h7, h8⟩ := hJe
  rw [List.append_nil] at h6
  have e_sta : ∀ x, sta (lsQ (elf t) (yg (elf t))) x = if sta t x = 1 then 0 else sta t x := by
    intro x
    rw [ls_sta]
    by_cases e : sta t x = 1
    · rw [if_pos e]
      exact lsT_pos e
    · rw [if_neg e]
      exact lsT_neg e
  have st2 : ∀ x, sta (lsQ (elf t) (yg (elf t))) x = 2 ↔ sta t x = 2 := by
    intro x
    rw [e_sta]
    split <;> omega
  have egro : ∀ y, gro s (lsQ (elf t) (yg (elf t))) y = gro s t y := by
    intro y
    refine sm_congr (fun x _ => ?_)
    by_cases e : sta s x = 1 ∧ sta t x = 2
    · rw [if_pos e, if_pos ⟨e.1, (st2 x).mpr e.2⟩]
    · rw [if_neg e, if_neg (fun q => e ⟨q.1, (st2 x).mp q.2⟩)]
  refine ⟨hE, ⟨wf_ls (wf_elf hw) _, ⟨?_, hb.2.1, hb.2.2.1, hb.2.2.2⟩, ?_⟩, ⟨e1, e2, e3, e4, e5, e6, e7, e8, e9⟩, fun _ => rfl, ?_, ?_, ?_, ?_, ?_, ?_, ?_⟩
  · intro x
    rw [e_sta]
    have := hb.1 x
    split <;> omega
  · intro x hx
    rw [e_sta] at hx
    have hn1 : sta t x ≠ 1 := fun e => hx (if_pos e)
    rw [if_neg hn1] at hx
    rcases ha x hx with ⟨w, -⟩ | ⟨w1, w2⟩
    · exact absurd w hn1
    · exact Or.inr ⟨(st2 x).mpr w1, w2⟩
  · intro x hx
    rw [e_sta] at hx ⊢
    have := hb.1 x
    split
    · rename_i q
      rw [if_pos q] at hx
      exact absurd rfl hx
    · rename_i q
      rw [if_neg q] at hx
      omega
  · intro x hx
    rw [st2]
    rcases h1 x with q | q <;> omega
  · intro x hx
    rw [st2] at hx
    rcases h1 x with q | q <;> omega
  · exact h2
  · intro x hx hx2
    exact h3 x hx ((st2 x).mp hx2)
  · intro y hy hc
    rw [st2] at hy
    rw [egro, Nat.add_assoc, ← h6 y]
    exact h4 y hy hc
  · intro y hy
    rw [egro, ← h6 y] at hy
    rw [st2]
    exact h5 y (mem_count.mpr hy)
