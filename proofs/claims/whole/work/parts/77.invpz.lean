/-! A pause as a whole: the abstract step, and that it keeps the invariant -/
theorem inv_move {s t : St} {β : Nat → Option Nat} (h : Inv s β) (hw : Wf t) (e1 : sta t = sta s) (e2 : sz t = sz s) (e3 : ct t = ct s) (e4 : co t = co s) (e5 : fl t = fl s) (e6 : lg t = lg s) (e7 : rt t = rt s) (e8 : row t = row s) (e9 : log t = log s) (e10 : tr t = tr s) : Inv t β := by
  obtain ⟨g, S, T, ⟨-, hb, ha, hl, hr⟩, hL, hC, hS, hT⟩ := h
  refine ⟨g, S, T, ⟨hw, ?_, ?_, ?_, ?_⟩, ?_, ⟨?_, ?_⟩, ?_, ?_⟩
  · unfold Bd; rw [e1, e3, e4, e10]; exact hb
  · unfold Ag; rw [e1, e3, e4]; exact ha
  · rw [e8, osz_same e1 e2]; exact hl
  · rw [e8, e1]; exact hr
  · unfold IG; rw [e1, e2, e5, e6, e9]; exact hL
  · rw [e1, e2]; exact hC.1
  · unfold Hn
    rw [e1, e3, e8]
    intro y hy hc
    rw [hG_same e1 e2]
    exact hC.2 y hy hc
  · unfold IS; rw [e1, e2, e5, e7]; exact hS
  · unfold IT clsd isW; rw [e1, e2, e4, e6, e10]; exact hT
theorem inv_beta {s : St} {β β' : Nat → Option Nat} (h : Inv s β) (e : ∀ r, r < 6 → β r = β' r) : Inv s β' := by
  obtain ⟨g, S, T, h0, hL, hC, hS, hT⟩ := h
  refine ⟨g, S, T, h0, hL, ⟨hC.1, fun y hy hc => ?_⟩, ⟨hS.1, fun r y hr q => hS.2.1 r y hr ((e r hr).trans q), hS.2.2.1, fun y q => ?_, hS.2.2.2.2⟩, hT⟩
  · have := hC.2 y hy hc
    unfold Hn at this ⊢
    rw [← fc_congr e]
    exact this
  · rcases hS.2.2.2.1 y q with ⟨r, hr, w⟩ | w
    · exact Or.inl ⟨r, hr, (e r hr).symm.trans w⟩
    · exact Or.inr w
theorem clb_same (s : St) (b k : Nat) : sta (clb s b k) = sta s ∧ sz (clb s b k) = sz s ∧ ct (clb s b k) = ct s ∧ co (clb s b k) = co s ∧ fl (clb s b k) = fl s ∧ lg (clb s b k) = lg s ∧ rt (clb s b k) = rt s ∧ bf (clb s b k) = bf s ∧ row (clb s b k) = row s ∧ log (clb s b k) = log s ∧ tr (clb s b k) = tr s ∧ ps (clb s b k) = ps s := by
  induction k with
  | zero => exact ⟨rfl, rfl, rfl, rfl, rfl, rfl, rfl, rfl, rfl, rfl, rfl, rfl⟩
  | succ k ih =>
    cases e : obj (clb s b k) (32 * b + k) with
    | none => rw [clb_n e]; exact ih
    | some x =>
      rw [clb_y e]
      obtain ⟨a1, a2, a3, a4, a5, a6, a7, a8, a9, a10, a11, a12⟩ := ih
      obtain ⟨q1, q2, q3, q4, q5, q6, q7, q8, q9, q10, q11, q12, q13, q14, q15, q16⟩ := shf_same (clb s b k) x
      exact ⟨q1.trans a1, q2.trans a2, q4.trans a3, q5.trans a4, q6.trans a5, q7.trans a6, q9.trans a7, q10.trans a8, q11.trans a9, q12.trans a10, q13.trans a11, q14.trans a12⟩
theorem clear_same (s : St) : sta (clear s) = sta s ∧ sz (clear s) = sz s ∧ ct (clear s) = ct s ∧ co (clear s) = co s ∧ fl (clear s) = fl s ∧ lg (clear s) = lg s ∧ rt (clear s) = rt s ∧ bf (clear s) = bf s ∧ row (clear s) = row s ∧ log (clear s) = log s ∧ tr (clear s) = tr s ∧ ps (clear s) = ps s := by
  unfold clear
  cases e : cB (uu s) 4 with
  | none => exact ⟨rfl, rfl, rfl, rfl, rfl, rfl, rfl, rfl, rfl, rfl, rfl, rfl⟩
  | some b => exact clb_same (ucl (fgt s) (nI b)) b 32
theorem clear_wf {s : St} (h : Wf s) : Wf (clear s) := by
  unfold clear
  cases e : cB (uu s) 4 with
  | none => exact h
  | some b => exact wf_elf (wf_cl (clb_wf (wf_cl (wf_fgt h) _) b 32).1 _)
def IZ (s : St) : Prop := cl s = -1 ∧ ∀ l, lf s l = 0
theorem clear_IZ {s : St} (h : IZ s) : IZ (clear s) := by
  unfold clear
  cases e : cB (uu s) 4 with
  | none => exact h
  | some b => exact ⟨rfl, fun _ => rfl⟩
/-- a trace's end -/
noncomputable def endT (s : St) : St := utr (clear (wht (rcN (swp s) 128))) 0
theorem inv_fin {s : St} (h : InvR s) (hz : IZ s) : InvR (utr (clear (wht s)) 0) ∧ IZ (utr (clear (wht s)) 0) ∧ tr (utr (clear (wht s)) 0) = 0 := by
  obtain ⟨⟨g, S, T, ⟨hw, hb, ha, hl, hr⟩, hL, hC, hS, hT⟩, hy⟩ := h
  obtain ⟨a1, a2, a3, a4, a5, a6, a7, a8, a9, a10, a11, a12⟩ := clear_same (wht s)
  have hwc : Wf (clear (wht s)) := clear_wf (hw.ext rfl (fun _ => Iff.rfl) rfl rfl rfl rfl)
  have hzc : IZ (clear (wht s)) := clear_IZ hz
  generalize clear (wht s) = t at *
  have b1 : sta (utr t 0) = sta s := a1
  have b2 : sz (utr t 0) = sz s := a2
  have b3 : ct (utr t 0) = ct s := a3
  have b4 : co (utr t 0) = cok s 256 := a4
  have b5 : fl (utr t 0) = fl s := a5
  have b6 : lg (utr t 0) = lg s := a6
  have b7 : rt (utr t 0) = rt s := a7
  have b8 : row (utr t 0) = row s := a9
  have b9 : log (utr t 0) = log s := a10
  have c0 : ∀ x, sta s x ≠ 0 → cok s 256 x = 0 := fun x hx => if_pos (hw.lt hx)
  refine ⟨⟨⟨g, S, T, ⟨hwc.ext rfl (fun _ => Iff.rfl) rfl rfl rfl rfl, ⟨?_, ?_, ?_, ?_⟩, ?_, ?_, ?_⟩, ?_, ⟨?_, ?_⟩, ?_, ?_, ?_⟩, ?_, ?_⟩, hzc, rfl⟩
  · rw [b1]; exact hb.1
  · rw [b3]; exact hb.2.1
  · rw [b4]
    intro x
    unfold cok
    split
    · omega
    · exact hb.2.2.1 x
  · show 0 ≤ 1
    omega
  · intro x hx
    rw [b1] at hx
    rw [b1, b3, b4]
    rcases ha x hx with ⟨w1, w2, w3⟩ | w
    · exact Or.inl ⟨w1, w2, c0 x hx⟩
    · exact Or.inr w
  · rw [b8, osz_same b1 b2]; exact hl
  · rw [b8, b1]; exact hr
  · unfold IG; rw [b1, b2, b5, b6, b9]; exact hL
  · rw [b1, b2]; exact hC.1
  · unfold Hn
    rw [b1, b3, b8, b7]
    intro y hy hc
    rw [hG_same b1 b2]
    exact hC.2 y hy hc
  · unfold IS; rw [b1, b2, b5, b7]; exact hS
  · intro _ x hx
    rw [b1] at hx
    rw [b4]
    exact c0 x (by omega)
  · intro q
    exact absurd rfl q
  · rw [b1]; exact hy.1
  · rw [b1, b2, b6]; exact hy.2
theorem gN_no {s : St} (hw : Wf s) (h : gN s = 0) : ∀ x, sta s x = 2 → co s x ≠ 1 := by
  intro x h2 h1
  have := sm_pos (hw.lt (show sta s x ≠ 0 by omega)) h
  rw [if_pos ⟨h2, h1⟩] at this
  omega
theorem inv_endT {s : St} (h : InvT s (rt s)) (hy : NY s) (hz : IZ s) (htr : tr s ≠ 0) (hg : gN s = 0) : InvR (swp s) ∧ InvR (rcN (swp s) 128) ∧ InvR (endT s) ∧ IZ (endT s) ∧ tr (endT s) = 0 := by
  have hw : Wf s := by
    obtain ⟨g, S, T, ⟨h0, -⟩, -⟩ := h
    exact h0.1
  obtain ⟨h1, h2, -⟩ := inv_swp h htr (gN_no hw hg) hy
  have hR : InvR (swp s) := by
    obtain ⟨g, S, T, h3, -⟩ := h1
    exact ⟨⟨g, S, T, h3⟩, h2⟩
  have hR2 := inv_rcN hR 128
  obtain ⟨r1, r2, r3, r4, r5⟩ := rcN_same (swp s) 128
  have hz2 : IZ (rcN (swp s) 128) := ⟨r3.trans hz.1, fun l => by rw [r4]; exact hz.2 l⟩
  exact ⟨hR, hR2, inv_fin hR2 hz2⟩
theorem inv_bgn {s : St} (h : InvR s) (htr : tr s = 0) : InvR (bgn s) := by
  obtain ⟨⟨g, S, T, ⟨hw, hb, ha, hl, hr⟩, hL, hC, hS, hT⟩, hy⟩ := h
  have e_co : co (bgn s) = grl s (rts s 6) := rfl
  have hg : ∀ x i, sta s x = 2 → i < sz s x → fl s x i = g x i := fun x i hx hi => hL.1 x i hx hi (hy.2 x i hx hi)
  have hlog : ∀ x i o, (x, i, o) ∉ log s := by
    intro x i o hm
    have q := hL.2.1 x i o hm
    have := hy.2 x i (hS.1 x q.1) q.2.1
    omega
  have RS : ∀ y, Rc (rt s) g (sz s) y → S y := fun y q => q S hS.2.1 hS.2.2.1
  have h0 := hT.1 htr
  refine ⟨⟨g, Rc (rt s) g (sz s), Rc (rt s) g (sz s), ⟨hw.ext rfl (fun _ => Iff.rfl) rfl rfl rfl rfl, ⟨hb.1, hb.2.1, ?_, ?_⟩, ?_, hl, hr⟩, ⟨hL.1, ?_, hL.2.2.1, hL.2.2.2.1, hL.2.2.2.2⟩, hC, ⟨?_, ?_, ?_, ?_, ?_, ?_⟩, ?_, ?_⟩, hy⟩
  · exact grl_le hb.2.2.1
  · show 1 ≤ 1
    omega
  · intro x hx
    have hx2 := hy.1 x hx
    exact Or.inr ⟨hx2, ha.ct1 hx2⟩
  · intro x i o hm
    exact absurd hm (hlog x i o)
  · intro y q
    exact hS.1 y (RS y q)
  · intro r y hr6 q
    exact Rc.root hr6 q
  · intro x i y q hi e
    exact q.step hi e
  · intro y q
    exact q.sup
  · intro r y hr6 q
    exact Or.inl (Rc.root hr6 q)
  · intro x i y q hi e
    rcases q with q | q
    · have e' : fl s x i = some y := e
      rw [hg x i (hS.1 x (RS x q)) hi] at e'
      exact Or.inl (q.step hi e')
    · have q' : sta s x = 1 := q
      have := hy.1 x (by omega)
      omega
  · intro q
    exact absurd q (by show ¬ (1 : Nat) = 0; omega)
  · intro _
    refine ⟨fun y q => hS.1 y (RS y q), ?_, fun _ q => q, ?_, ?_⟩
    · intro x hx hco
      rw [e_co] at hco
      obtain ⟨-, hm⟩ := grl_new (s := s) ⟨hx, h0 x hx⟩ hco
      obtain ⟨r, hr6, e⟩ := rts_mem.mp hm
      exact Rc.root hr6 e
    · intro x i y q hi e
      exact q.step hi e
    · intro C hCl y hyR hyw
      have := hyR (fun y => Rc (rt s) g (sz s) y ∧ (C y ∨ ¬ isW (bgn s) y)) ?_ ?_
      · rcases this.2 with q | q
        · exact q
        · exact absurd hyw q
      · intro r x hr6 e
        refine ⟨Rc.root hr6 e, Or.inr (fun q => ?_)⟩
        exact grl_in (s := s) q.1 (rts_mem.mpr ⟨r, hr6, e⟩) q.2
      · intro x i z ⟨q1, q2⟩ hi e
        refine ⟨q1.step hi e, ?_⟩
        have hx2 := hS.1 x (RS x q1)
        by_cases e0 : co (bgn s) x = 0
        · have hxw : isW (bgn s) x := ⟨hx2, e0⟩
          rcases q2 with q2 | q2
          · exact Or.inl (hCl x i z hx2 hi e (Or.inr (Or.inr ⟨q2, hxw, q1⟩)))
          · exact absurd hxw q2
        · refine Or.inl (hCl x i z hx2 hi e (Or.inr (Or.inl ?_)))
          rw [e_co] at e0 ⊢
          exact (grl_new (s := s) ⟨hx2, h0 x hx2⟩ e0).1
/-- what holds between the calls -/
def Ok (s : St) : Prop := Inv s (bf s) ∧ IZ s
noncomputable def pzA (s : St) : St := fgt (drN 262 s)
noncomputable def pzB (s : St) : St := stl (pzA s)
noncomputable def pzC (s : St) : St := if tr s ≠ 0 ∧ gN s = 0 then endT s else s
noncomputable def pzD (b : Bool) (s : St) : St := if b = true ∧ tr s = 0 then bgn s else s
noncomputable def pzE (s : St) : St := rem (ups (fgt s) (ps s + 1))
noncomputable def pz (b : Bool) (s : St) : St := pzE (pzD b (pzC (pzB s)))
noncomputable def grown (s : St) : Nat := (csN 262 (pzA s) (slt (pzA s)) 0).2
theorem Inv.wf {s : St} {β : Nat → Option Nat} (h : Inv s β) : Wf s := by
  obtain ⟨g, S, T, h0, -⟩ := h
  exact h0.1
theorem ok_pzA {s : St} (h : Ok s) : Inv (drN 262 s) (bf (drN 262 s)) ∧ Inv (pzA s) (bf (pzA s)) ∧ IZ (pzA s) ∧ row (pzA s) = [] := by
  have h1 := inv_drN h.1 262
  obtain ⟨a1, a2, a3, a4, a5⟩ := drN_same 262 s
  have h2 : Inv (drN 262 s) (bf (drN 262 s)) := by rw [a1]; exact h1
  refine ⟨h2, inv_move h2 (wf_fgt h1.wf) rfl rfl rfl rfl rfl rfl rfl rfl rfl rfl, ⟨a3.trans h.2.1, fun l => ?_⟩, dr_262 h.1⟩
  have : lf (pzA s) = lf (drN 262 s) := rfl
  rw [this, a4]
  exact h.2.2 l
theorem InvT.inv {s : St} {β : Nat → Option Nat} (h : InvT s β) : Inv s β := by
  obtain ⟨g, S, T, h0, -⟩ := h
  exact ⟨g, S, T, h0⟩
theorem ok_pzB {s : St} (h : Inv s (bf s)) (hz : IZ s) (hrow : row s = []) : InvT (stl s) (rt (stl s)) ∧ NY (stl s) ∧ IZ (stl s) := by
  obtain ⟨h1, h2, h3, h4, h5, h6, h7, h8, h9, h10⟩ := inv_stl h hrow
  refine ⟨by rw [h5]; exact h1, ⟨h9, h10⟩, ⟨h6.trans hz.1, h4⟩⟩
theorem ok_pzC {s : St} (h : InvT s (rt s)) (hy : NY s) (hz : IZ s) : InvR (pzC s) ∧ IZ (pzC s) := by
  unfold pzC
  split
  · rename_i q
    obtain ⟨-, -, h1, h2, -⟩ := inv_endT h hy hz q.1 q.2
    exact ⟨h1, h2⟩
  · exact ⟨⟨h.inv, hy⟩, hz⟩
theorem ok_pzD {s : St} (b : Bool) (h : InvR s) (hz : IZ s) : InvR (pzD b s) ∧ IZ (pzD b s) := by
  unfold pzD
  split
  · rename_i q
    exact ⟨inv_bgn h q.2, hz⟩
  · exact ⟨h, hz⟩
theorem ok_pzE {s : St} (h : InvR s) (hz : IZ s) : Ok (pzE s) := by
  refine ⟨inv_beta (inv_move (t := pzE s) h.1 ((wf_fgt h.1.wf).ext rfl (fun _ => Iff.rfl) rfl rfl rfl rfl) rfl rfl rfl rfl rfl rfl rfl rfl rfl rfl) (fun r hr => ?_), hz⟩
  exact (if_pos hr).symm
theorem ok_pz {s : St} (b : Bool) (h : Ok s) : Ok (pz b s) := by
  obtain ⟨-, h1, h2, h3⟩ := ok_pzA h
  obtain ⟨h4, h5, h6⟩ := ok_pzB h1 h2 h3
  obtain ⟨h7, h8⟩ := ok_pzC h4 h5 h6
  obtain ⟨h9, h10⟩ := ok_pzD b h7 h8
  exact ok_pzE h9 h10
