/-! load, store -/
def bad2 (a b : Int32) : Prop := badR a ∨ ((∃ r, r < 6 ∧ a = nI r) ∧ badR b)
theorem two_cases (a b : Int32) : (∃ r r2, r < 6 ∧ r2 < 6 ∧ a = nI r ∧ b = nI r2) ∨ bad2 a b := by
  rcases root_cases a with ⟨r, hr, e⟩ | hb
  · rcases root_cases b with ⟨r2, hr2, e2⟩ | hb2
    · exact Or.inl ⟨r, r2, hr, hr2, e, e2⟩
    · exact Or.inr (Or.inr ⟨⟨r, hr, e⟩, hb2⟩)
  · exact Or.inr (Or.inl hb)
theorem c_iwf_bad {a i b : Int32} {pe : Nat → Mem → Prop} {post : Nat → Mem → Prop} {μ : Mem} (hb : bad2 a b) (h : pe 7 (bump μ 7)) : wC_itemWithField a i b pe post μ := by
  unfold wC_itemWithField
  rcases hb with hb | ⟨⟨r, hr, e⟩, hb⟩
  · exact c_root_n hb ⟨fun _ => h, fun q => absurd rfl q⟩
  · subst e
    exact c_root_y hr ⟨fun q => absurd q (by decide), fun _ => c_root_n hb ⟨fun _ => h, fun q => absurd rfl q⟩⟩
theorem c_iwf {r r2 : Nat} {i : Int32} {pe : Nat → Mem → Prop} {post : Nat → Mem → Prop} {μ : Mem} {s : St} {ι : Nat → Nat} {d : Int32} (h : CR μ s ι d (lv s)) (hw : Wf s) (hrt : ∀ r x, r < 6 → rt s r = some x → sta s x ≠ 0) (hr : r < 6) (hr2 : r2 < 6) (h8 : rt s r = none → pe 8 (bump μ 8)) (h9 : ∀ x, rt s r = some x → badF s x i → pe 9 (bump μ 9)) (hy : ∀ x k, rt s r = some x → k < sz s x → i = nI k → post (ι x) μ) : wC_itemWithField (nI r) i (nI r2) pe post μ := by
  unfold wC_itemWithField
  refine c_root_y hr ⟨fun q => absurd q (by decide), fun _ => c_root_y hr2 ⟨fun q => absurd q (by decide), fun _ => ⟨(nI_vp (by omega)).mpr hr, ?_⟩⟩⟩
  intro e6 he6
  rw [nI_clamp (by omega), h.prt r hr] at he6
  cases ho : rt s r with
  | none =>
    rw [ho] at he6
    subst he6
    exact ⟨fun _ => h8 ho, fun y q => (by cases q)⟩
  | some x =>
    rw [ho] at he6
    subst he6
    refine ⟨fun q => (by cases q), fun y q => ?_⟩
    have : ι x = y := Option.some.inj q
    subst this
    have hx := hrt r x hr ho
    have hi := h.it x hx
    refine ⟨hi.o, ?_⟩
    rcases fld_cases (hw.sz1 hx) (hw.sz12 hx) i with ⟨k, hk, e⟩ | hb
    · subst e
      exact c_has_y hi (hw.sz12 hx) hk ⟨fun q => absurd q (by decide), fun _ => hy x k ho hk rfl⟩
    · exact c_has_n hi hb ⟨fun _ => h9 x ho hb, fun q => absurd rfl q⟩
theorem m_reach_bad {a i b : Int32} {post : Mem → Prop} {μ : Mem} (hb : bad2 a b) (h : post (sI μ 17 0 1)) : wM_reach a b i post μ := by
  have c : wM_reach_15 a i post μ := by
    unfold wM_reach_15 wM_reach_33
    intro μ3 e3
    subst e3
    rw [mI_sI_self]
    exact ⟨fun q => absurd q (by decide), fun _ => h⟩
  unfold wM_reach
  rcases hb with hb | ⟨⟨r, hr, e⟩, hb⟩
  · exact m_root_n hb ⟨fun _ => c, fun q => absurd rfl q⟩
  · subst e
    exact m_root_y hr ⟨fun q => absurd q (by decide), fun _ => m_root_n hb ⟨fun _ => c, fun q => absurd rfl q⟩⟩
theorem m_reach {r r2 : Nat} {i : Int32} {post : Mem → Prop} {μ : Mem} {s : St} (h : MR μ s) (hw : Wf s) (hrt : ∀ r x, r < 6 → rt s r = some x → sta s x ≠ 0) (hr : r < 6) (hr2 : r2 < 6) (h2 : rt s r = none → post (sI μ 17 0 2)) (h3 : ∀ x, rt s r = some x → badF s x i → post (sI (sI μ 17 0 0) 17 0 3)) (hy : ∀ x k, rt s r = some x → k < sz s x → i = nI k → post (sI (sI μ 17 0 0) 17 0 0)) : wM_reach (nI r) (nI r2) i post μ := by
  unfold wM_reach
  refine m_root_y hr ⟨fun q => absurd q (by decide), fun _ => m_root_y hr2 ⟨fun q => absurd q (by decide), fun _ => ⟨(nI_vp (by omega)).mpr hr, ?_⟩⟩⟩
  rw [nI_clamp (by omega), h.prt r hr]
  cases ho : rt s r with
  | none =>
    refine ⟨fun q => absurd q eo_neg, fun _ => ?_⟩
    unfold wM_reach_33
    intro μ3 e3
    subst e3
    rw [mI_sI_self]
    exact ⟨fun q => absurd q (by decide), fun _ => h2 ho⟩
  | some x =>
    have hx := hrt r x hr ho
    have hx2 := hw.lt hx
    have h12 := hw.sz12 hx
    have ex : eo (some x) = nI x := rfl
    rw [ex]
    refine ⟨fun _ => ?_, fun q => absurd (nI_pos' (by omega)) q⟩
    unfold wM_reach_33
    intro μ3 e3
    subst e3
    have m2 := h.w_code (v := 0)
    rw [mI_sI_self, nI_clamp (by omega), m2.prt r hr, ho, ex, nI_clamp (by omega), m2.psz x hx2]
    refine ⟨fun _ => ?_, fun q => absurd rfl q⟩
    rcases fld_cases (hw.sz1 hx) h12 i with ⟨k, hk, e⟩ | hb
    · subst e
      rw [nI_leI (by omega) (by omega)]
      refine ⟨fun q => absurd q (nI_pos (by omega)), fun _ => ⟨(nI_vp (by omega)).mpr hr, (nI_vp (by omega)).mpr hx2, fun q => absurd q (by omega), fun _ => ?_⟩⟩
      intro μ8 e8
      subst e8
      exact hy x k ho hk rfl
    · refine ⟨fun _ => ?_, fun q => ⟨(nI_vp (by omega)).mpr hr, (nI_vp (by omega)).mpr hx2, fun _ => ?_, fun w => ?_⟩⟩
      · intro μ4 e4
        subst e4
        exact h3 x ho hb
      · intro μ7 e7
        subst e7
        exact h3 x ho hb
      · rcases hb with z | z
        · exact absurd z q
        · exact absurd z.2 w
theorem some_inj2 {a b : Nat} {o : Option Nat} (h1 : o = some a) (h2 : o = some b) : a = b := Option.some.inj (h1.symm.trans h2)
theorem badF_no {s : St} {x k : Nat} (hx : sz s x ≤ 12) (hk : k < sz s x) (h : badF s x (nI k)) : False := by
  rcases h with z | z
  · exact nI_pos (by omega) z
  · have z2 := z.2
    rw [nI_leI (by omega) (by omega)] at z2
    omega
theorem k_load {μ : Mem} {s : St} (h : Rel μ s) (a b i : Int32) {V1 V2 V3 : Prop} (hV1 : V1) (hV2 : V2) (hV3 : V3) {N B : Mem → Prop} (hN : ∀ μ' s', Rel μ' s' → N μ') : wL_load a b i (fun r47 μ46 => V1 ∧ V2 ∧ V3 ∧ wM_load a b i (fun r52 μ51 => wM_thrown (fun r54 μ53 => ((r54 = r47 → VAL r47 r52 N B μ53) ∧ (¬ r54 = r47 → B μ53))) μ51) μ46) μ := by
  have hR := h
  obtain ⟨h1, h2, h3, ι, h4⟩ := h
  obtain ⟨hw, -, -, -, -, hrt, hf⟩ := inv_facts h1.1
  have fin : ∀ (c : Int32) (μ1 : Mem), Rel μ1 s → mI μ1 17 0 = c → ¬ c ≤ 0 → ((mI μ1 17 0) ≤ 0 → vp_in b 6 ∧ vp_in ((12 * (mI μ1 27 (b).toNatClampNeg)) + i) 3072 ∧ vp_in a 6 ∧ ∀ μ5, μ5 = sI μ1 27 (a).toNatClampNeg (mI μ1 25 ((12 * (mI μ1 27 (b).toNatClampNeg)) + i).toNatClampNeg) →
      wM_addressOf (mI μ5 27 (a).toNatClampNeg) (fun r7 μ6 => wM_thrown (fun r54 μ53 => ((r54 = c → VAL c r7 N B μ53) ∧ (¬ r54 = c → B μ53))) μ6) μ5) ∧
      (¬ (mI μ1 17 0) ≤ 0 → wM_thrown (fun r54 μ53 => ((r54 = c → VAL c 0 N B μ53) ∧ (¬ r54 = c → B μ53))) μ1) := by
    intro c μ1 hR1 e hc
    rw [e]
    exact ⟨fun q => absurd q hc, fun _ => thr_val e (fun q => by rw [q] at hc; exact absurd (by decide) hc) (hN _ s hR1)⟩
  unfold wL_load wC_load
  rcases two_cases b a with ⟨r, r2, hr, hr2, e, e2⟩ | hb
  · subst e; subst e2
    refine c_iwf h4 hw hrt hr hr2 (fun hn => ⟨fun q => absurd q (by decide), fun _ => ⟨hV1, hV2, hV3, ?_⟩, fun q => absurd q (by decide), fun _ q => absurd rfl q⟩) (fun x hx hbf => ⟨fun q => absurd q (by decide), fun q => absurd q (by decide), fun _ => ⟨hV1, hV2, hV3, ?_⟩, fun _ _ q => absurd rfl q⟩) (fun x k hx hk e => ?_)
    · unfold wM_load
      have hR1 := rel_bump hR 8
      exact m_reach hR1.2.2.1 hw hrt hr hr2 (fun _ => fin 2 _ (rel_code hR1 2) (mI_sI_self _ _ _ _) z_no2) (fun x hx => by rw [hn] at hx; cases hx) (fun x k hx => by rw [hn] at hx; cases hx)
    · unfold wM_load
      have hR1 := rel_bump hR 9
      refine m_reach hR1.2.2.1 hw hrt hr hr2 (fun hn => by rw [hn] at hx; cases hx) (fun _ _ _ => fin 3 _ (rel_code (rel_code hR1 0) 3) (mI_sI_self _ _ _ _) z_no3) (fun y k hy hk e => ?_)
      have := some_inj2 hx hy
      subst this
      subst e
      exact (badF_no (hw.sz12 (hrt r x hr hx)) hk hbf).elim
    · subst e
      have hl := hrt r x hr hx
      have hx2 := hw.lt hl
      have h12 := hw.sz12 hl
      have hi := h4.it x hl
      refine ⟨hi.o, hi.o1, by rw [hi.l1]; exact (nI_vp (by omega)).mpr hk, ?_⟩
      intro e6 he6
      subst he6
      rw [nI_clamp (by omega), nI_clamp (by omega), hi.pfl k hk]
      refine ⟨(nI_vp (by omega)).mpr hr2, fun y hy => ?_, ?_⟩
      · cases ho : fl s x k with
        | none => rw [ho] at hy; cases hy
        | some z =>
          rw [ho] at hy
          have : ι z = y := Option.some.inj hy
          subst this
          exact (h4.it z (hf x k z hl hk ho)).o
      · intro μ8 e8
        subst e8
        intro e10 he10
        subst he10
        rw [mR_sR_self]
        have c1 := h4.w_rt (r := r2) (v := fl s x k)
        have hO : Ok (urt s (up (rt s) r2 (fl s x k))) := ⟨inv_rt h1.1 (Or.inr (Or.inr ⟨r, x, k, hr, hx, hk, rfl⟩)), h1.2⟩
        refine c_addr c1 (fun y hy => hf x k y hl hk hy) (out_ok ⟨hV1, hV2, hV3, ?_⟩)
        have m1 : MR (sI (sR μ 1 r2 ((fl s x k).map ι)) 34 0 (adr (urt s (up (rt s) r2 (fl s x k))) (fl s x k))) s := h3.frame (fun r hr => mI_ne (by omega))
        have c2 := cr_m c1 (r := 34) (j := 0) (v := adr (urt s (up (rt s) r2 (fl s x k))) (fl s x k)) o34
        unfold wM_load
        refine m_reach m1 hw hrt hr hr2 (fun hn => by rw [hn] at hx; cases hx) (fun y hy hbf => ?_) (fun y k2 hy hk2 e => ?_)
        · have := some_inj2 hx hy
          subst this
          exact (badF_no h12 hk hbf).elim
        · have m2 := (m1.w_code (v := 0)).w_code (v := 0)
          have c3 := cr_code (cr_code c2 0) 0
          have e12 : 12 * nI x + nI k = nI (12 * x + k) := by rw [li_12, nI_mul, nI_add]
          have ex : eo (some x) = nI x := rfl
          rw [mI_sI_self, nI_clamp (by omega), m2.prt r hr, hx, ex, e12, nI_clamp (by omega), nI_clamp (by omega), m2.pfl x k hx2 (by omega)]
          refine ⟨fun _ => ⟨(nI_vp (by omega)).mpr hr, (nI_vp (by omega)).mpr (by omega), (nI_vp (by omega)).mpr hr2, ?_⟩, fun q => absurd (by decide) q⟩
          intro μ5 e5
          subst e5
          rw [mI_sI_self]
          have m3 := m2.w_rt (x := r2) (v := fl s x k)
          refine m_addr m3 (fun y hy => hw.lt (hf x k y hl hk hy)) (thr_val ((mI_no (by omega)).trans (mI_sI_self _ _ _ _)) (fun _ => ?_) (hN _ _ ⟨hO, h2, m3, ι, cr_m c3 o27⟩))
          rw [mI_no (by omega), mI_no (by omega), mI_no (by omega), mI_sI_self]
  · refine c_iwf_bad hb ⟨fun _ => ⟨hV1, hV2, hV3, ?_⟩, fun q => absurd q (by decide), fun q => absurd q (by decide), fun q => absurd rfl q⟩
    unfold wM_load
    exact m_reach_bad hb (fin 1 _ (rel_code (rel_bump hR 7) 1) (mI_sI_self _ _ _ _) z_no1)
