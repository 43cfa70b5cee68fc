/-! The calls, both sides together -/
def Rel (μ : Mem) (s : St) : Prop := Ok s ∧ nx s < 256 ∧ MR μ s ∧ ∃ ι, CR μ s ι 0 (lv s)
theorem bump_ok {μ : Mem} {k r q : Nat} (h : okO μ r q) : okO (bump μ k) r q := by
  refine ⟨?_, ?_⟩
  · rw [mN_bump]; have := h.1; omega
  · rw [mK_bump, if_neg (by have := h.1; omega)]; exact h.2
theorem cr_bump {μ : Mem} {s : St} {ι : Nat → Nat} {d : Int32} {P : Nat → Prop} (h : CR μ s ι d P) (k : Nat) : CR (bump μ k) s ι d P := by
  refine ⟨h.lay.bump k, fun x hx => ?_, h.inj, h.pat, h.prt, h.pbf, h.pl, h.wt, h.plo, h.ptr, h.pps, h.pmv, h.pwh⟩
  obtain ⟨i1, i2, i3, i4, i5, i6, i7, i8, i9, i10, i11, i12, i13⟩ := h.it x hx
  exact ⟨i1, bump_ok i2, bump_ok i3, bump_ok i4, i5, i6, i7, i8, i9, i10, i11, i12, i13⟩
theorem mr_bump {μ : Mem} {s : St} (h : MR μ s) (k : Nat) : MR (bump μ k) s := h.frame (fun _ _ => rfl)
theorem rel_bump {μ : Mem} {s : St} (h : Rel μ s) (k : Nat) : Rel (bump μ k) s := by
  obtain ⟨h1, h2, h3, ι, h4⟩ := h
  exact ⟨h1, h2, mr_bump h3 k, ι, cr_bump h4 k⟩
theorem cr_code {μ : Mem} {s : St} {ι : Nat → Nat} {d : Int32} {P : Nat → Prop} (h4 : CR μ s ι d P) (v : Int32) : CR (sI μ 17 0 v) s ι d P := by
  refine ⟨h4.lay, fun x hx => ?_, h4.inj, h4.pat, h4.prt, h4.pbf, h4.pl.frame (fun r hr => mI_ne (by omega)), h4.wt.frame (mI_ne (by omega)) rfl, h4.plo.frame (mI_ne (by omega)) rfl (mI_ne (by omega)) rfl, (mI_no (by omega)).trans h4.ptr, (mI_no (by omega)).trans h4.pps, (mI_no (by omega)).trans h4.pmv, (mI_no (by omega)).trans h4.pwh⟩
  obtain ⟨i1, i2, i3, i4, i5, i6, i7, i8, i9, i10, i11, i12, i13⟩ := h4.it x hx
  exact ⟨i1, i2, i3, i4, i5, i6, (mI_no (by omega)).trans i7, (mI_no (by omega)).trans i8, (mI_no (by omega)).trans i9, (mI_no (by omega)).trans i10, (mI_no (by omega)).trans i11, i12, fun i hi => (mI_no (by omega)).trans (i13 i hi)⟩
theorem rel_code {μ : Mem} {s : St} (h : Rel μ s) (v : Int32) : Rel (sI μ 17 0 v) s := by
  obtain ⟨h1, h2, h3, ι, h4⟩ := h
  exact ⟨h1, h2, h3.w_code, ι, cr_code h4 v⟩
theorem cr_m {μ : Mem} {s : St} {ι : Nat → Nat} {d : Int32} {P : Nat → Prop} (h : CR μ s ι d P) {r j : Nat} {v : Int32} (hr : outS r) (hc : ¬ (r = 17 ∧ j = 0) := by omega) : CR (sI μ r j v) s ι d P := h.frame (Fr.sI hr hc)
theorem out_ok {post : Mem → Prop} {μ1 : Mem} {v : Int32} (h : post (sI μ1 34 0 v)) : vp_in 0 1 ∧ ∀ μ4, μ4 = sI μ1 34 (0 : Int32).toNatClampNeg v → post μ4 := by
  refine ⟨(nI_vp (a := 0) (by omega)).mpr (by omega), fun μ4 e => ?_⟩
  subst e
  rw [show (0 : Int32).toNatClampNeg = 0 from nI_clamp (n := 0) (by omega)]
  exact h
theorem o27 : outS 27 := by unfold outS; omega
theorem o25 : outS 25 := by unfold outS; omega
theorem o26 : outS 26 := by unfold outS; omega
theorem o31 : outS 31 := by unfold outS; omega
theorem o32 : outS 32 := by unfold outS; omega
theorem o34 : outS 34 := by unfold outS; omega
theorem o17 : outS 17 := by unfold outS; omega
theorem rel_out {μ : Mem} {s : St} (h : Rel μ s) (v : Int32) : Rel (sI μ 34 0 v) s := by
  obtain ⟨h1, h2, h3, ι, h4⟩ := h
  exact ⟨h1, h2, h3.frame (fun r hr => mI_ne (by omega)), ι, h4.frame (Fr.sI (by unfold outS; omega))⟩
def badR (a : Int32) : Prop := a < 0 ∨ (¬ a < 0 ∧ 6 ≤ a)
theorem root_cases (a : Int32) : (∃ r, r < 6 ∧ a = nI r) ∨ badR a := by
  by_cases h : a < 0
  · exact Or.inr (Or.inl h)
  · by_cases h6 : 6 ≤ a
    · exact Or.inr (Or.inr ⟨h, h6⟩)
    · obtain ⟨j, hj, e⟩ := nat_of (M := 6) (n := 5) (by decide) h h6
      exact Or.inl ⟨j, by omega, e⟩
theorem c_root_y {r : Nat} {post : Int32 → Mem → Prop} {μ : Mem} (hr : r < 6) (h : post 1 μ) : wC_isRoot (nI r) post μ := by
  unfold wC_isRoot
  rw [li_6, nI_leI (by omega) (by omega)]
  exact ⟨fun q => absurd q (nI_pos (by omega)), fun _ => ⟨fun q => absurd q (by omega), fun _ => h⟩⟩
theorem c_root_n {a : Int32} {post : Int32 → Mem → Prop} {μ : Mem} (hr : badR a) (h : post 0 μ) : wC_isRoot a post μ := by
  unfold wC_isRoot
  refine ⟨fun _ => h, fun q => ⟨fun _ => h, fun w => ?_⟩⟩
  rcases hr with z | z
  · exact absurd z q
  · exact absurd z.2 w
theorem m_root_y {r : Nat} {post : Int32 → Mem → Prop} {μ : Mem} (hr : r < 6) (h : post 1 μ) : wM_isRoot (nI r) post μ := c_root_y hr h
theorem m_root_n {a : Int32} {post : Int32 → Mem → Prop} {μ : Mem} (hr : badR a) (h : post 0 μ) : wM_isRoot a post μ := c_root_n hr h
def VAL (r18 r23 : Int32) (N B : Mem → Prop) (μ24 : Mem) : Prop := ((r18 = 0 → vp_in 0 1 ∧ (((lg_cmp ((mI μ24 34 (0 : Int32).toNatClampNeg).toInt64) r23.toInt64) = 0 → N μ24) ∧ (¬ (lg_cmp ((mI μ24 34 (0 : Int32).toNatClampNeg).toInt64) r23.toInt64) = 0 → B μ24))) ∧ (¬ r18 = 0 → N μ24))
theorem lg_same (x : Int64) : lg_cmp x x = 0 := by
  unfold lg_cmp
  have h : ¬ x > x := by
    show ¬ x < x
    rw [Int64.lt_iff_toInt_lt]
    omega
  rw [if_neg h, if_pos rfl]
theorem vp01 : vp_in 0 1 := (nI_vp (a := 0) (by omega)).mpr (by omega)
theorem cl0 : (0 : Int32).toNatClampNeg = 0 := nI_clamp (n := 0) (by omega)
theorem val_ok {r18 r23 : Int32} {N B : Mem → Prop} {μ : Mem} (h : r18 = 0 → mI μ 34 0 = r23) (hN : N μ) : VAL r18 r23 N B μ := by
  unfold VAL
  rw [cl0]
  refine ⟨fun q => ⟨vp01, fun _ => hN, fun w => absurd ?_ w⟩, fun _ => hN⟩
  rw [h q]
  exact lg_same _
theorem thr_val {r18 r23 : Int32} {N B : Mem → Prop} {μ : Mem} (hc : mI μ 17 0 = r18) (h : r18 = 0 → mI μ 34 0 = r23) (hN : N μ) : wM_thrown (fun r25 μ24 => ((r25 = r18 → VAL r18 r23 N B μ24) ∧ (¬ r25 = r18 → B μ24))) μ := by
  unfold wM_thrown
  exact ⟨fun _ => val_ok h hN, fun q => absurd hc q⟩
theorem thr_void {r18 : Int32} {N B : Mem → Prop} {μ : Mem} (hc : mI μ 17 0 = r18) (hN : N μ) : wM_thrown (fun r25 μ24 => ((r25 = r18 → N μ24) ∧ (¬ r25 = r18 → B μ24))) μ := by
  unfold wM_thrown
  exact ⟨fun _ => hN, fun q => absurd hc q⟩
def adr (s : St) (o : Option Nat) : Int32 := match o with
  | none => -1
  | some x => nI (ad s x)
theorem c_addr {μ : Mem} {s : St} {ι : Nat → Nat} {d : Int32} {o : Option Nat} {post : Int32 → Mem → Prop} (h : CR μ s ι d (lv s)) (ho : ∀ y, o = some y → sta s y ≠ 0) (hp : post (adr s o) μ) : wC_addressOf (o.map ι) post μ := by
  unfold wC_addressOf
  cases o with
  | none => exact ⟨fun _ => hp, fun y q => (by cases q)⟩
  | some x =>
    refine ⟨fun q => (by cases q), fun y q => ?_⟩
    have : ι x = y := Option.some.inj q
    subst this
    have hi := h.it x (ho x rfl)
    refine ⟨hi.o, ?_⟩
    rw [hi.pad]
    exact hp
theorem m_addr {μ : Mem} {s : St} {o : Option Nat} {post : Int32 → Mem → Prop} (h : MR μ s) (ho : ∀ y, o = some y → y < 256) (hp : post (adr s o) μ) : wM_addressOf (eo o) post μ := by
  unfold wM_addressOf
  cases o with
  | none => exact ⟨fun q => absurd q eo_neg, fun _ => hp⟩
  | some x =>
    have hx := ho x rfl
    have ex : eo (some x) = nI x := rfl
    rw [ex, nI_clamp (by omega), h.pad x hx]
    exact ⟨fun _ => ⟨(nI_vp (by omega)).mpr hx, hp⟩, fun q => absurd (nI_pos' (by omega)) q⟩
theorem z_no1 : ¬ (1 : Int32) ≤ 0 := by decide
theorem z_no2 : ¬ (2 : Int32) ≤ 0 := by decide
theorem z_no3 : ¬ (3 : Int32) ≤ 0 := by decide
theorem k_drop {μ : Mem} {s : St} (h : Rel μ s) (a : Int32) {V : Prop} (hV : V) {N B : Mem → Prop} (hN : ∀ μ' s', Rel μ' s' → N μ') : wL_drop a (fun r29 μ28 => V ∧ wM_drop a (fun μ31 => wM_thrown (fun r33 μ32 => ((r33 = r29 → N μ32) ∧ (¬ r33 = r29 → B μ32))) μ31) μ28) μ := by
  unfold wL_drop wC_drop
  rcases root_cases a with ⟨r, hr, e⟩ | hb
  · subst e
    obtain ⟨h1, h2, h3, ι, h4⟩ := h
    refine c_root_y hr ⟨fun q => absurd q (by decide), fun _ => ⟨(nI_vp (by omega)).mpr hr, ?_⟩⟩
    intro μ4 e4
    subst e4
    rw [nI_clamp (by omega)]
    refine ⟨hV, ?_⟩
    have c1 : CR (sR μ 1 r none) (urt s (up (rt s) r none)) ι 0 (lv s) := h4.w_rt (v := none)
    have m1 : MR (sR μ 1 r none) s := h3.frame (fun _ _ => rfl)
    unfold wM_drop
    refine m_root_y hr ⟨fun q => absurd q (by decide), fun _ => ?_⟩
    unfold wM_drop_13
    intro μ3 e3
    subst e3
    rw [mI_sI_self, nI_clamp (by omega)]
    refine ⟨fun _ => ⟨(nI_vp (by omega)).mpr hr, ?_⟩, fun q => absurd rfl q⟩
    intro μ5 e5
    subst e5
    refine thr_void ((mI_no (by omega)).trans (mI_sI_self _ _ _ _)) (hN _ (urt s (up (rt s) r none)) ⟨⟨inv_rt h1.1 (Or.inl rfl), h1.2⟩, h2, (m1.w_code (v := 0)).w_rt (v := none), ι, ?_⟩)
    exact cr_m (cr_code c1 0) o27
  · refine c_root_n hb ⟨fun _ => ⟨fun _ => ⟨hV, ?_⟩, fun q => absurd rfl q⟩, fun q => absurd rfl q⟩
    unfold wM_drop
    refine m_root_n hb ⟨fun _ => ?_, fun q => absurd rfl q⟩
    unfold wM_drop_13
    intro μ3 e3
    subst e3
    rw [mI_sI_self]
    exact ⟨fun q => absurd q (by decide), fun _ => thr_void (mI_sI_self _ _ _ _) (hN _ s (rel_code (rel_bump h 7) 1))⟩
theorem k_copy {μ : Mem} {s : St} (h : Rel μ s) (a b : Int32) {V1 V2 : Prop} (hV1 : V1) (hV2 : V2) {N B : Mem → Prop} (hN : ∀ μ' s', Rel μ' s' → N μ') : wL_copy a b (fun r37 μ36 => V1 ∧ V2 ∧ wM_copy a b (fun μ40 => wM_thrown (fun r42 μ41 => ((r42 = r37 → N μ41) ∧ (¬ r42 = r37 → B μ41))) μ40) μ36) μ := by
  have bad : ∀ μ1, Rel μ1 s → (badR a ∨ ((∃ r, r < 6 ∧ a = nI r) ∧ badR b)) → wM_copy a b (fun μ40 => wM_thrown (fun r42 μ41 => ((r42 = 1 → N μ41) ∧ (¬ r42 = 1 → B μ41))) μ40) μ1 := by
    intro μ1 hR hb
    have fin : wM_copy_19 a b (fun μ40 => wM_thrown (fun r42 μ41 => ((r42 = 1 → N μ41) ∧ (¬ r42 = 1 → B μ41))) μ40) μ1 := by
      unfold wM_copy_19 wM_copy_20
      intro μ3 e3
      subst e3
      rw [mI_sI_self]
      exact ⟨fun q => absurd q (by decide), fun _ => thr_void (mI_sI_self _ _ _ _) (hN _ s (rel_code hR 1))⟩
    unfold wM_copy
    rcases hb with hb | ⟨⟨r, hr, e⟩, hb⟩
    · exact m_root_n hb ⟨fun _ => fin, fun q => absurd rfl q⟩
    · subst e
      exact m_root_y hr ⟨fun q => absurd q (by decide), fun _ => m_root_n hb ⟨fun _ => fin, fun q => absurd rfl q⟩⟩
  unfold wL_copy wC_copy
  rcases root_cases a with ⟨r, hr, e⟩ | hb
  · rcases root_cases b with ⟨r2, hr2, e2⟩ | hb2
    · subst e; subst e2
      obtain ⟨h1, h2, h3, ι, h4⟩ := h
      obtain ⟨-, -, -, -, -, hrt, -⟩ := inv_facts h1.1
      refine c_root_y hr ⟨fun q => absurd q (by decide), fun _ => c_root_y hr2 ⟨fun q => absurd q (by decide), fun _ => ⟨(nI_vp (by omega)).mpr hr2, ?_⟩⟩⟩
      intro e6 he6
      subst he6
      rw [nI_clamp (by omega), nI_clamp (by omega), h4.prt r2 hr2]
      refine ⟨(nI_vp (by omega)).mpr hr, fun y hy => ?_, ?_⟩
      · cases ho : rt s r2 with
        | none => rw [ho] at hy; cases hy
        | some x =>
          rw [ho] at hy
          have : ι x = y := Option.some.inj hy
          subst this
          exact (h4.it x (hrt r2 x hr2 ho)).o
      · intro μ8 e8
        subst e8
        refine ⟨hV1, hV2, ?_⟩
        have c1 := h4.w_rt (r := r) (v := rt s r2)
        have m1 : MR (sR μ 1 r ((rt s r2).map ι)) s := h3.frame (fun _ _ => rfl)
        unfold wM_copy
        refine m_root_y hr ⟨fun q => absurd q (by decide), fun _ => m_root_y hr2 ⟨fun q => absurd q (by decide), fun _ => ?_⟩⟩
        unfold wM_copy_20
        intro μ3 e3
        subst e3
        have m2 := m1.w_code (v := 0)
        rw [mI_sI_self, nI_clamp (by omega), nI_clamp (by omega), m2.prt r2 hr2]
        refine ⟨fun _ => ⟨(nI_vp (by omega)).mpr hr2, (nI_vp (by omega)).mpr hr, ?_⟩, fun q => absurd rfl q⟩
        intro μ6 e6
        subst e6
        exact thr_void ((mI_no (by omega)).trans (mI_sI_self _ _ _ _)) (hN _ (urt s (up (rt s) r (rt s r2))) ⟨⟨inv_rt h1.1 (Or.inr (Or.inl ⟨r2, hr2, rfl⟩)), h1.2⟩, h2, m2.w_rt, ι, cr_m (cr_code c1 0) o27⟩)
    · subst e
      exact c_root_y hr ⟨fun q => absurd q (by decide), fun _ => c_root_n hb2 ⟨fun _ => ⟨fun _ => ⟨hV1, hV2, bad _ (rel_bump h 7) (Or.inr ⟨⟨r, hr, rfl⟩, hb2⟩)⟩, fun q => absurd rfl q⟩, fun q => absurd rfl q⟩⟩
  · exact c_root_n hb ⟨fun _ => ⟨fun _ => ⟨hV1, hV2, bad _ (rel_bump h 7) (Or.inl hb)⟩, fun q => absurd rfl q⟩, fun q => absurd rfl q⟩
theorem k_root {μ : Mem} {s : St} (h : Rel μ s) (a : Int32) {V : Prop} (hV : V) {N B : Mem → Prop} (hN : ∀ μ' s', Rel μ' s' → N μ') : wL_root a (fun r95 μ94 => V ∧ wM_root a (fun r98 μ97 => wM_thrown (fun r100 μ99 => ((r100 = r95 → VAL r95 r98 N B μ99) ∧ (¬ r100 = r95 → B μ99))) μ97) μ94) μ := by
  unfold wL_root wC_root
  rcases root_cases a with ⟨r, hr, e⟩ | hb
  · subst e
    have hR := h
    obtain ⟨h1, h2, h3, ι, h4⟩ := h
    obtain ⟨hw, -, -, -, -, hrt, -⟩ := inv_facts h1.1
    refine c_root_y hr ⟨fun q => absurd q (by decide), fun _ => ⟨(nI_vp (by omega)).mpr hr, ?_⟩⟩
    intro e4 he4
    subst he4
    rw [nI_clamp (by omega), h4.prt r hr]
    refine c_addr h4 (fun y hy => hrt r y hr hy) (out_ok ⟨hV, ?_⟩)
    unfold wM_root
    refine m_root_y hr ⟨fun q => absurd q (by decide), fun _ => ?_⟩
    unfold wM_root_13
    intro μ3 e3
    subst e3
    have hR2 := rel_code (rel_out hR (adr s (rt s r))) 0
    have m2 := hR2.2.2.1
    rw [mI_sI_self, nI_clamp (by omega), m2.prt r hr]
    refine ⟨fun _ => ⟨(nI_vp (by omega)).mpr hr, m_addr m2 (fun y hy => hw.lt (hrt r y hr hy)) (thr_val (mI_sI_self _ _ _ _) (fun _ => ?_) (hN _ s hR2))⟩, fun q => absurd (by decide) q⟩
    exact (mI_no (by omega)).trans (mI_sI_self _ _ _ _)
  · refine c_root_n hb ⟨fun _ => ⟨fun _ => ⟨hV, ?_⟩, fun q => absurd rfl q⟩, fun q => absurd rfl q⟩
    unfold wM_root
    refine m_root_n hb ⟨fun _ => ?_, fun q => absurd rfl q⟩
    unfold wM_root_13
    intro μ3 e3
    subst e3
    rw [mI_sI_self]
    exact ⟨fun q => absurd q z_no1, fun _ => thr_val (mI_sI_self _ _ _ _) (fun q => absurd q (by decide)) (hN _ s (rel_code (rel_bump h 7) 1))⟩
