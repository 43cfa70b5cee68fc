/-! Calls that only look -/
def badA (a : Int32) : Prop := a < 0 ∨ (¬ a < 0 ∧ 128 ≤ a)
theorem addr_cases (a : Int32) : (∃ j, j < 128 ∧ a = nI j) ∨ badA a := by
  by_cases h : a < 0
  · exact Or.inr (Or.inl h)
  · by_cases h6 : 128 ≤ a
    · exact Or.inr (Or.inr ⟨h, h6⟩)
    · obtain ⟨j, hj, e⟩ := nat_of (M := 128) (n := 127) (by decide) h h6
      exact Or.inl ⟨j, by omega, e⟩
theorem m_obj_n {a : Int32} {post : Int32 → Mem → Prop} {μ : Mem} (hb : badA a) (h : post (-1) μ) : wM_objectAt a post μ := by
  unfold wM_objectAt
  refine ⟨fun _ => h, fun q => ⟨fun _ => h, fun w => ?_⟩⟩
  rcases hb with z | z
  · exact absurd z q
  · exfalso
    have z2 := z.2
    rw [Int32.le_iff_toInt_le] at z2
    rw [Int32.lt_iff_toInt_lt] at w
    have e1 : (128 : Int32).toInt = 128 := by decide
    have e2 : (127 : Int32).toInt = 127 := by decide
    omega
theorem c_obj_n {a : Int32} {post : Option Nat → Mem → Prop} {μ : Mem} (hb : badA a) (h : post none μ) : wC_itemOrNull a post μ := by
  unfold wC_itemOrNull
  refine ⟨fun _ => h, fun q => ⟨fun _ => h, fun w => ?_⟩⟩
  rcases hb with z | z
  · exact absurd z q
  · exact absurd z.2 w
theorem c_obj_y {j : Nat} {post : Option Nat → Mem → Prop} {μ : Mem} {s : St} {ι : Nat → Nat} {d : Int32} {P : Nat → Prop} (h : CR μ s ι d P) (hj : j < 128) (hp : post ((obj s j).map ι) μ) : wC_itemOrNull (nI j) post μ := by
  unfold wC_itemOrNull
  rw [li_128, nI_leI (by omega) (by omega), nI_clamp (by omega), h.pat j hj]
  refine ⟨fun q => absurd q (nI_pos (by omega)), fun _ => ⟨fun q => absurd q (by omega), fun _ => ⟨(nI_vp (by omega)).mpr hj, ?_⟩⟩⟩
  intro e2 he2
  subst he2
  exact hp
def badF (s : St) (x : Nat) (i : Int32) : Prop := i < 0 ∨ (¬ i < 0 ∧ nI (sz s x) ≤ i)
theorem fld_cases {s : St} {x : Nat} (h1 : 1 ≤ sz s x) (h12 : sz s x ≤ 12) (i : Int32) : (∃ k, k < sz s x ∧ i = nI k) ∨ badF s x i := by
  by_cases h : i < 0
  · exact Or.inr (Or.inl h)
  · by_cases h6 : nI (sz s x) ≤ i
    · exact Or.inr (Or.inr ⟨h, h6⟩)
    · obtain ⟨j, hj, e⟩ := nat_of (M := nI (sz s x)) (n := sz s x - 1) (by rw [nI_toInt (by omega)]; omega) h h6
      exact Or.inl ⟨j, by omega, e⟩
theorem c_has_y {x k : Nat} {post : Int32 → Mem → Prop} {μ : Mem} {s : St} {ι : Nat → Nat} (hi : itm μ s ι x) (h12 : sz s x ≤ 12) (hk : k < sz s x) (hp : post 1 μ) : wI_hasField (ι x) (nI k) post μ := by
  unfold wI_hasField
  rw [hi.psz, nI_leI (by omega) (by omega)]
  exact ⟨fun q => absurd q (nI_pos (by omega)), fun _ => ⟨hi.o, fun q => absurd q (by omega), fun _ => hp⟩⟩
theorem c_has_n {x : Nat} {i : Int32} {post : Int32 → Mem → Prop} {μ : Mem} {s : St} {ι : Nat → Nat} (hi : itm μ s ι x) (hb : badF s x i) (hp : post 0 μ) : wI_hasField (ι x) i post μ := by
  unfold wI_hasField
  rw [hi.psz]
  refine ⟨fun _ => hp, fun q => ⟨hi.o, fun _ => hp, fun w => ?_⟩⟩
  rcases hb with z | z
  · exact absurd z q
  · exact absurd z.2 w
theorem k_field {μ : Mem} {s : St} (h : Rel μ s) (a i : Int32) {V1 V2 : Prop} (hV1 : V1) (hV2 : V2) {N B : Mem → Prop} (hN : ∀ μ' s', Rel μ' s' → N μ') : wL_field a i (fun r105 μ104 => V1 ∧ V2 ∧ wM_field a i (fun r109 μ108 => wM_thrown (fun r111 μ110 => ((r111 = r105 → VAL r105 r109 N B μ110) ∧ (¬ r111 = r105 → B μ110))) μ108) μ104) μ := by
  have hR := h
  obtain ⟨h1, h2, h3, ι, h4⟩ := h
  obtain ⟨hw, -, -, -, -, -, hf⟩ := inv_facts h1.1
  have c49 : ∀ (l3 c : Int32) (μ1 : Mem), Rel μ1 s → ¬ c ≤ 0 → mI μ1 17 0 = c → wM_field_49 i l3 (fun r109 μ108 => wM_thrown (fun r111 μ110 => ((r111 = c → VAL c r109 N B μ110) ∧ (¬ r111 = c → B μ110))) μ108) μ1 := by
    intro l3 c μ1 hR1 hc e
    unfold wM_field_49
    rw [e]
    exact ⟨fun q => absurd q hc, fun _ => thr_val e (fun q => by rw [q] at hc; exact absurd (by decide) hc) (hN _ s hR1)⟩
  have none1 : ∀ μ1, Rel μ1 s → wM_field_16 i (-1) 1 (fun r109 μ108 => wM_thrown (fun r111 μ110 => ((r111 = 1 → VAL 1 r109 N B μ110) ∧ (¬ r111 = 1 → B μ110))) μ108) μ1 := by
    intro μ1 hR1
    unfold wM_field_16
    intro μ3 e3
    subst e3
    rw [mI_sI_self]
    exact ⟨fun q => absurd q (by decide), fun _ => c49 (-1) 1 _ (rel_code hR1 1) z_no1 (mI_sI_self _ _ _ _)⟩
  have m1n : ¬ 0 ≤ (-1 : Int32) := by decide
  unfold wL_field wC_field
  rcases addr_cases a with ⟨j, hj, e⟩ | hb
  · subst e
    refine c_obj_y h4 hj ?_
    cases ho : obj s j with
    | none =>
      refine ⟨fun _ => ⟨fun _ => ⟨hV1, hV2, ?_⟩, fun q => absurd q (by decide), fun q => absurd rfl q⟩, fun y q => (by cases q)⟩
      unfold wM_field
      refine m_objectAt (mr_bump h3 11) hw (by omega) (fun _ => ?_) (fun q => absurd q (by omega))
      rw [ho]
      exact ⟨fun q => absurd q eo_neg, fun _ => none1 _ (rel_bump hR 11)⟩
    | some x =>
      refine ⟨fun q => (by cases q), fun y q => ?_⟩
      have : ι x = y := Option.some.inj q
      subst this
      have hx := (obj_live hw ho).1
      have hx2 := hw.lt hx
      have h12 := hw.sz12 hx
      have hi := h4.it x hx
      refine ⟨hi.o, ?_⟩
      rcases fld_cases (hw.sz1 hx) h12 i with ⟨k, hk, e⟩ | hbf
      · subst e
        refine c_has_y hi h12 hk ⟨fun q => absurd q (by decide), fun _ => ⟨hi.o, hi.o1, by rw [hi.l1]; exact (nI_vp (by omega)).mpr hk, ?_⟩⟩
        intro e10 he10
        subst he10
        rw [nI_clamp (by omega), hi.pfl k hk]
        refine c_addr h4 (fun y hy => hf x k y hx hk hy) (out_ok ⟨hV1, hV2, ?_⟩)
        have hR1 := rel_out hR (adr s (fl s x k))
        unfold wM_field
        refine m_objectAt hR1.2.2.1 hw (by omega) (fun _ => ?_) (fun q => absurd q (by omega))
        rw [ho]
        have ex : eo (some x) = nI x := rfl
        rw [ex]
        refine ⟨fun _ => ?_, fun q => absurd (nI_pos' (by omega)) q⟩
        unfold wM_field_16
        intro μ3 e3
        subst e3
        have hR2 := rel_code hR1 0
        have e12 : 12 * nI x + nI k = nI (12 * x + k) := by rw [li_12, nI_mul, nI_add]
        rw [mI_sI_self, nI_clamp (by omega), hR2.2.2.1.psz x hx2, nI_leI (by omega) (by omega)]
        refine ⟨fun _ => ⟨fun q => absurd q (nI_pos (by omega)), fun _ => ⟨(nI_vp (by omega)).mpr hx2, fun q => absurd q (by omega), fun _ => ?_⟩⟩, fun q => absurd rfl q⟩
        unfold wM_field_46 wM_field_49
        intro μ7 e7
        subst e7
        have hR3 := rel_code hR2 0
        rw [mI_sI_self, e12, nI_clamp (by omega), hR3.2.2.1.pfl x k hx2 (by omega)]
        refine ⟨fun _ => ⟨(nI_vp (by omega)).mpr (by omega), m_addr hR3.2.2.1 (fun y hy => hw.lt (hf x k y hx hk hy)) (thr_val (mI_sI_self _ _ _ _) (fun _ => ?_) (hN _ s hR3))⟩, fun q => absurd (by decide) q⟩
        exact (mI_no (by omega)).trans ((mI_no (by omega)).trans (mI_sI_self _ _ _ _))
      · refine c_has_n hi hbf ⟨fun _ => ⟨fun q => absurd q (by decide), fun _ => ⟨hV1, hV2, ?_⟩, fun _ q => absurd rfl q⟩, fun q => absurd rfl q⟩
        have hR1 := rel_bump hR 9
        unfold wM_field
        refine m_objectAt hR1.2.2.1 hw (by omega) (fun _ => ?_) (fun q => absurd q (by omega))
        rw [ho]
        have ex : eo (some x) = nI x := rfl
        rw [ex]
        refine ⟨fun _ => ?_, fun q => absurd (nI_pos' (by omega)) q⟩
        unfold wM_field_16
        intro μ3 e3
        subst e3
        have hR2 := rel_code hR1 0
        have c45 : wM_field_45 i (nI x) (fun r109 μ108 => wM_thrown (fun r111 μ110 => ((r111 = 2 → VAL 2 r109 N B μ110) ∧ (¬ r111 = 2 → B μ110))) μ108) (sI (bump μ 9) 17 0 0) := by
          unfold wM_field_45 wM_field_46
          intro μ7 e7
          subst e7
          exact c49 (nI x) 2 _ (rel_code hR2 2) z_no2 (mI_sI_self _ _ _ _)
        rw [mI_sI_self, nI_clamp (by omega), hR2.2.2.1.psz x hx2]
        refine ⟨fun _ => ⟨fun _ => c45, fun q => ⟨(nI_vp (by omega)).mpr hx2, fun _ => c45, fun w => ?_⟩⟩, fun q => absurd rfl q⟩
        rcases hbf with z | z
        · exact absurd z q
        · exact absurd z.2 w
  · refine c_obj_n hb ⟨fun _ => ⟨fun _ => ⟨hV1, hV2, ?_⟩, fun q => absurd q (by decide), fun q => absurd rfl q⟩, fun y q => (by cases q)⟩
    unfold wM_field
    exact m_obj_n hb ⟨fun q => absurd q m1n, fun _ => none1 _ (rel_bump hR 11)⟩
theorem what_cases (w : Int32) : (w < 0 ∨ (¬ w < 0 ∧ ¬ w ≤ 3)) ∨ (¬ w < 0 ∧ w ≤ 3) := by
  by_cases h : w < 0
  · exact Or.inl (Or.inl h)
  · by_cases h3 : w ≤ 3
    · exact Or.inr ⟨h, h3⟩
    · exact Or.inl (Or.inr ⟨h, h3⟩)
theorem m_obj_any {a : Int32} {post : Int32 → Mem → Prop} {μ : Mem} {s : St} (h : MR μ s) (hw : Wf s) (hp : ∀ r, post r μ) : wM_objectAt a post μ := by
  rcases addr_cases a with ⟨j, hj, e⟩ | hb
  · subst e
    exact m_objectAt h hw (by omega) (fun _ => hp _) (fun _ => hp _)
  · exact m_obj_n hb (hp _)
theorem k_object {μ : Mem} {s : St} (h : Rel μ s) (a w : Int32) {V1 V2 : Prop} (hV1 : V1) (hV2 : V2) {N B : Mem → Prop} (hN : ∀ μ' s', Rel μ' s' → N μ') : wL_object a w (fun r116 μ115 => V1 ∧ V2 ∧ wM_object a w (fun r120 μ119 => wM_thrown (fun r122 μ121 => ((r122 = r116 → VAL r116 r120 N B μ121) ∧ (¬ r122 = r116 → B μ121))) μ119) μ115) μ := by
  have hR := h
  obtain ⟨h1, h2, h3, ι, h4⟩ := h
  obtain ⟨hw, -, -, -, -, -, hf⟩ := inv_facts h1.1
  have m1n : ¬ 0 ≤ (-1 : Int32) := by decide
  have cbad : ∀ (l3 c : Int32) (μ1 : Mem), Rel μ1 s → ¬ c ≤ 0 → wM_object_29 w l3 c (fun r120 μ119 => wM_thrown (fun r122 μ121 => ((r122 = c → VAL c r120 N B μ121) ∧ (¬ r122 = c → B μ121))) μ119) μ1 := by
    intro l3 c μ1 hR1 hc
    unfold wM_object_29
    intro μ3 e3
    subst e3
    rw [mI_sI_self]
    exact ⟨fun q => absurd q hc, fun _ => thr_val (mI_sI_self _ _ _ _) (fun q => by rw [q] at hc; exact absurd (by decide) hc) (hN _ s (rel_code hR1 c))⟩
  unfold wL_object wC_object
  rcases what_cases w with hb | ⟨hn, hle⟩
  · have m7 : wM_object a w (fun r120 μ119 => wM_thrown (fun r122 μ121 => ((r122 = 1 → VAL 1 r120 N B μ121) ∧ (¬ r122 = 1 → B μ121))) μ119) (bump μ 7) := by
      unfold wM_object
      refine m_obj_any (mr_bump h3 7) hw (fun r => ?_)
      refine ⟨fun _ => cbad r 1 _ (rel_bump hR 7) z_no1, fun q => ⟨fun z => ?_, fun _ => cbad r 1 _ (rel_bump hR 7) z_no1⟩⟩
      rcases hb with y | y
      · exact absurd y q
      · exact absurd z y.2
    refine ⟨fun _ => ⟨fun _ => ⟨hV1, hV2, m7⟩, fun q => absurd q (by decide), fun q => absurd rfl q⟩, fun q => ⟨fun z => ?_, fun _ => ⟨fun _ => ⟨hV1, hV2, m7⟩, fun q => absurd q (by decide), fun q => absurd rfl q⟩⟩⟩
    rcases hb with y | y
    · exact absurd y q
    · exact absurd z y.2
  · refine ⟨fun q => absurd q hn, fun _ => ⟨fun _ => ?_, fun q => absurd hle q⟩⟩
    rcases addr_cases a with ⟨j, hj, e⟩ | hb
    · subst e
      refine c_obj_y h4 hj ?_
      cases ho : obj s j with
      | none =>
        refine ⟨fun _ => ⟨fun q => absurd q (by decide), fun _ => ⟨hV1, hV2, ?_⟩, fun _ q => absurd rfl q⟩, fun y q => (by cases q)⟩
        unfold wM_object
        refine m_objectAt (mr_bump h3 11) hw (by omega) (fun _ => ?_) (fun q => absurd q (by omega))
        rw [ho]
        exact ⟨fun q => absurd q hn, fun _ => ⟨fun _ => ⟨fun q => absurd q eo_neg, fun _ => cbad _ 2 _ (rel_bump hR 11) z_no2⟩, fun q => absurd hle q⟩⟩
      | some x =>
        refine ⟨fun q => (by cases q), fun y q => ?_⟩
        have : ι x = y := Option.some.inj q
        subst this
        have hx := (obj_live hw ho).1
        have hx2 := hw.lt hx
        have hi := h4.it x hx
        have fin : ∀ v, (∀ μ3, Rel μ3 s → mI μ3 34 0 = v → mI μ3 17 0 = 0 → ((w = 0 → vp_in (nI x) 256 ∧ wM_thrown (fun r122 μ121 => ((r122 = 0 → VAL 0 (mI μ3 21 x) N B μ121) ∧ (¬ r122 = 0 → B μ121))) μ3) ∧
            (¬ w = 0 → ((w = 1 → vp_in (nI x) 256 ∧ wM_thrown (fun r122 μ121 => ((r122 = 0 → VAL 0 (mI μ3 22 x) N B μ121) ∧ (¬ r122 = 0 → B μ121))) μ3) ∧
            (¬ w = 1 → ((w = 2 → vp_in (nI x) 256 ∧ wM_thrown (fun r122 μ121 => ((r122 = 0 → VAL 0 (mI μ3 23 x) N B μ121) ∧ (¬ r122 = 0 → B μ121))) μ3) ∧
            (¬ w = 2 → vp_in (nI x) 256 ∧ wM_thrown (fun r122 μ121 => ((r122 = 0 → VAL 0 (mI μ3 24 x) N B μ121) ∧ (¬ r122 = 0 → B μ121))) μ3)))))))
            → vp_in 0 1 ∧ ∀ μ4, μ4 = sI μ 34 (0 : Int32).toNatClampNeg v → V1 ∧ V2 ∧ wM_object (nI j) w (fun r120 μ119 => wM_thrown (fun r122 μ121 => ((r122 = 0 → VAL 0 r120 N B μ121) ∧ (¬ r122 = 0 → B μ121))) μ119) μ4 := by
          intro v hv
          refine out_ok (post := fun μ4 => V1 ∧ V2 ∧ wM_object (nI j) w (fun r120 μ119 => wM_thrown (fun r122 μ121 => ((r122 = 0 → VAL 0 r120 N B μ121) ∧ (¬ r122 = 0 → B μ121))) μ119) μ4) ⟨hV1, hV2, ?_⟩
          have hR1 := rel_out hR v
          unfold wM_object
          refine m_objectAt hR1.2.2.1 hw (by omega) (fun _ => ?_) (fun q => absurd q (by omega))
          rw [ho]
          have ex : eo (some x) = nI x := rfl
          rw [ex]
          refine ⟨fun q => absurd q hn, fun _ => ⟨fun _ => ⟨fun _ => ?_, fun q => absurd (nI_pos' (by omega)) q⟩, fun q => absurd hle q⟩⟩
          unfold wM_object_29
          intro μ3 e3
          subst e3
          rw [mI_sI_self, nI_clamp (by omega)]
          exact ⟨fun _ => hv _ (rel_code hR1 0) ((mI_no (by omega)).trans (mI_sI_self _ _ _ _)) (mI_sI_self _ _ _ _), fun q => absurd (by decide) q⟩
        have vx : vp_in (nI x) 256 := (nI_vp (by omega)).mpr hx2
        refine ⟨fun e => ⟨hi.o, fin _ (fun μ3 hR3 e34 e17 => ⟨fun _ => ⟨vx, thr_val e17 (fun _ => ?_) (hN _ s hR3)⟩, fun q => absurd e q⟩)⟩, fun e => ⟨hi.o, fin _ (fun μ3 hR3 e34 e17 => ⟨fun q => ?_, fun _ => ⟨fun _ => ⟨vx, thr_val e17 (fun _ => ?_) (hN _ s hR3)⟩, fun q => absurd e q⟩⟩)⟩, fun e => ⟨hi.o, fin _ (fun μ3 hR3 e34 e17 => ⟨fun q => ?_, fun _ => ⟨fun q => ?_, fun _ => ⟨fun _ => ⟨vx, thr_val e17 (fun _ => ?_) (hN _ s hR3)⟩, fun q => absurd e q⟩⟩⟩)⟩, fun e0 e1 e2 => ⟨hi.o, fin _ (fun μ3 hR3 e34 e17 => ⟨fun q => absurd q e0, fun _ => ⟨fun q => absurd q e1, fun _ => ⟨fun q => absurd q e2, fun _ => ⟨vx, thr_val e17 (fun _ => ?_) (hN _ s hR3)⟩⟩⟩⟩)⟩⟩
        · rw [e34, hi.psz, hR3.2.2.1.psz x hx2]
        · rw [e] at q; exact absurd q (by decide)
        · rw [e34, hi.ptg, hR3.2.2.1.ptg x hx2]
        · rw [e] at q; exact absurd q (by decide)
        · rw [e] at q; exact absurd q (by decide)
        · rw [e34, hi.pct, hR3.2.2.1.pct x hx2]
        · rw [e34, hi.pco, hR3.2.2.1.pco x hx2]
    · refine c_obj_n hb ⟨fun _ => ⟨fun q => absurd q (by decide), fun _ => ⟨hV1, hV2, ?_⟩, fun _ q => absurd rfl q⟩, fun y q => (by cases q)⟩
      unfold wM_object
      exact m_obj_n hb ⟨fun q => absurd q hn, fun _ => ⟨fun _ => ⟨fun q => absurd q m1n, fun _ => cbad _ 2 _ (rel_bump hR 11) z_no2⟩, fun q => absurd hle q⟩⟩
