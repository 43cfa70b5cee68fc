/-! allocate, whole -/
theorem plc_ok {s : St} (h : Ok s) {n : Nat} (hn1 : 1 ≤ n) (hn : n ≤ 12) : Ok (plc s n).2 ∧ nx (plc s n).2 = nx s ∧ ((plc s n).1 = -1 ∨ ∃ a, (plc s n).1 = nI a ∧ a + n ≤ 128 ∧ (∀ j, a ≤ j → j < a + n → cel (plc s n).2 j = none) ∧ ∀ j, inRoom (plc s n).2 j → ¬ (a ≤ j ∧ j < a + n)) := by
  have hw := h.1.wf
  obtain ⟨p1, p2, q⟩ := plc_spec hw.2.2.1 hw.sm hn1 hn
  have hw2 := wf_plc hw hn1 hn
  have ec : cel (plc s n).2 = cel s := by rw [plc_2, spl_cel]
  refine ⟨⟨?_, ?_⟩, ?_, ?_⟩
  · have e : bf (plc s n).2 = bf s := by rw [plc_2]; rfl
    rw [e]
    rw [plc_2] at hw2 ⊢
    generalize (placeG (pg s) n).2 = A at *
    exact inv_move h.1 hw2 rfl rfl rfl rfl rfl rfl rfl rfl rfl rfl
  · rw [plc_2]
    generalize (placeG (pg s) n).2 = A
    exact h.2
  · rw [plc_2]; rfl
  · rcases q with q | ⟨a, q1, q2, q3, q4⟩
    · exact Or.inl q.1
    · exact Or.inr ⟨a, q1, q2, by rw [ec]; exact q3, fun j hj => (q4 j hj).2⟩
theorem lv_plc (s : St) (n : Nat) : lv (plc s n).2 = lv s := by rw [plc_2]; rfl
theorem shp5 : ∀ j d, (shp 5)[j]? = some (some d) → (j = 2 ∧ d = 1) ∨ (j = 3 ∧ d = 2) := by
  intro j d h
  have hj : j < (shp 5).length := (List.getElem?_eq_some_iff.mp h).1
  have hl : (shp 5).length = 7 := rfl
  have : j = 0 ∨ j = 1 ∨ j = 2 ∨ j = 3 ∨ j = 4 ∨ j = 5 ∨ j = 6 := by omega
  rcases this with e | e | e | e | e | e | e
  all_goals subst e
  · cases h
  · cases h
  · cases h; exact Or.inl ⟨rfl, rfl⟩
  · cases h; exact Or.inr ⟨rfl, rfl⟩
  · cases h
  · cases h
  · cases h
theorem alc_lay {s : St} {x n a : Nat} {t : Int32} : eqS (lay (uad (nwM s x n t) (up (ad s) x 0)) x a) (lay (nwM s x n t) x a) := by
  have e : up (ad s) x a = up (up (ad s) x 0) x a := by
    funext y
    unfold up
    by_cases q : y = x
    · rw [if_pos q, if_pos q]
    · rw [if_neg q, if_neg q, if_neg q]
  refine ⟨rfl, rfl, ?_, rfl, rfl, rfl, rfl, rfl, rfl, rfl, rfl, rfl, rfl, rfl, rfl, rfl, rfl, rfl, rfl, rfl, rfl, rfl, rfl, rfl, rfl⟩
  exact e
theorem c_a56 {s : St} {ι : Nat → Nat} {μ : Mem} {x n a r : Nat} {t : Int32} {pe : Nat → Mem → Prop} {post : Int32 → Mem → Prop} (hO : Ok s) (h : CR μ s ι 0 (lv s)) (hx : x < 256) (h0 : sta s x = 0) (hn1 : 1 ≤ n) (hn : n ≤ 12) (ha : a + n ≤ 128) (hfree : ∀ j, a ≤ j → j < a + n → cel s j = none) (hr : r < 6)
    (hp : ∀ μ1 ι1, CR μ1 (alc s x n t a r) ι1 0 (lv (alc s x n t a r)) → (∀ q, 17 ≤ q ∧ q ≤ 34 → mI μ1 q = mI μ q) → post (nI a) μ1) : wC_allocate_56 (nI r) (nI n) t (nI a) pe post μ := by
  obtain ⟨hw, hb, hag, -, hrow, hrt, hf⟩ := inv_facts hO.1
  obtain ⟨hbf, hlog⟩ := inv_more hO.1
  have h35 : 35 ≤ mN μ := h.lay.1
  unfold wC_allocate_56
  refine ⟨fun q => absurd q (nI_m1 (by omega)), fun _ => ?_⟩
  intro y5 μ6 e5 e6
  subst e5; subst e6
  unfold wI_init
  refine ⟨⟨?_, ?_⟩, ?_⟩
  · rw [mN_newO]; omega
  · rw [mK_newO, if_pos rfl]
  intro μ2 e2
  subst e2
  intro μ3 e3
  subst e3
  rw [nI_clamp (by omega)]
  refine ⟨nI_pos (by omega), hn, ?_⟩
  intro y4 μ5 e4 e5
  subst e4; subst e5
  intro μ8 e8
  subst e8
  refine ⟨nI_pos (by omega), hn, ?_⟩
  intro y9 μ10 e9 e10
  subst e9; subst e10
  intro μ13 e13
  subst e13
  have hmem := frsh_mem (μ := μ) (n := n) (t := t)
  have fin : finOk (sR (newA (sR (newA (sI (sI (newO μ 45) (mN μ) 0 (nI n)) (mN μ) 1 t) 22 n) (mN μ) 2 (some (mN μ + 1))) 21 n) (mN μ) 3 (some (mN μ + 2))) (mN μ) 5 := by
    have a1 : mN (sI (sI (newO μ 45) (mN μ) 0 (nI n)) (mN μ) 1 t) = mN μ + 1 := rfl
    have a2 : mN (sR (newA (sI (sI (newO μ 45) (mN μ) 0 (nI n)) (mN μ) 1 t) 22 n) (mN μ) 2 (some (mN μ + 1))) = mN μ + 2 := rfl
    refine ⟨⟨?_, ?_⟩, fun j d hj => ?_⟩
    · show mN μ < mN μ + 3
      omega
    · rw [mK_sR, mK_newA, a2, if_neg (by omega), mK_sR, mK_newA, a1, if_neg (by omega), mK_sI, mK_sI, mK_newO, if_pos rfl]
    · rcases shp5 j d hj with ⟨q1, q2⟩ | ⟨q1, q2⟩
      · subst q1; subst q2
        rw [mR_sR, if_neg (by omega), mR_newA, a2, if_neg (by omega), mR_sR_self]
      · subst q1; subst q2
        rw [mR_sR_self]
  refine ⟨fin, ?_⟩
  intro μ14 e14
  have e14' : μ14 = finO (sR (newA (sR (newA (sI (sI (newO μ 45) (mN μ) 0 (nI n)) (mN μ) 1 t) 22 n) (mN μ) 2 (some (mN μ + 1))) 21 n) (mN μ) 3 (some (mN μ + 2))) (mN μ) 5 := e14
  rw [← e14'] at hmem
  have c1 := cr_fresh h hw h0 hrt hbf (fun y hy => by have := hrow y hy; omega) hf hlog hmem
  have hx1 : lv (nwM s x n t) x := by
    show up (sta s) x 1 x ≠ 0
    rw [up_self]
    omega
  have eι : mN μ = up ι x (mN μ) x := (up_self _ _ _).symm
  have es : sz (uad (nwM s x n t) (up (ad s) x 0)) x = n := up_self _ _ _
  rw [eι]
  refine c_settle c1 hx1 hx (by rw [es]; exact hn1) (by rw [es]; exact ha) (fun j e => hw.2.1 j x e h0) (by rw [es]; exact hfree) (fun j z hz => hw.sm j z hz) (fun μ10 c2 hF => ?_)
  have c3 : CR μ10 (lay (nwM s x n t) x a) (up ι x (mN μ)) 0 (lv (nwM s x n t)) := c2.ext alc_lay
  refine ⟨(nI_vp (by omega)).mpr hr, (c3.it x hx1).o, ?_⟩
  intro μ12 e12
  subst e12
  rw [nI_clamp (by omega)]
  have c4 := c3.w_rt (r := r) (v := some x)
  refine hp _ (up ι x (mN μ)) c4 (fun q hq => ?_)
  have f1 : mI μ10 q = mI μ14 q := (hF.2.2 q (by unfold cmS; omega)).1
  have f2 : mI μ14 q = mI μ q := funext (hmem.2.1 q (by omega)).2.2.1
  exact f1.trans f2
theorem m_a59 {s : St} {μ : Mem} {n a r e : Nat} {t : Int32} {post : Int32 → Mem → Prop} (hO : Ok s) (hN : nx s < 256) (h : MR μ s) (h0 : sta s ((nx s + e) % 256) = 0) (hj : ∀ j, j < e → ¬ sta s ((nx s + j) % 256) = 0) (hn : n ≤ 12) (ha : a + n ≤ 128) (hr : r < 6)
    (hp : ∀ μ1, MR μ1 (alc s ((nx s + e) % 256) n t a r) → Fr moS μ μ1 → post (nI a) μ1) : wM_allocate_59 (nI r) (nI n) t (nI a) post μ := by
  have m27 : moS 27 := by unfold moS; omega
  obtain ⟨hw, hb, hag, -, hrow, hrt, hf⟩ := inv_facts hO.1
  have hx : (nx s + e) % 256 < 256 := Nat.mod_lt _ (by decide)
  unfold wM_allocate_59
  refine ⟨fun _ => ?_, fun q => absurd (nI_pos' (by omega)) q⟩
  refine m_make (e := e) h hb hN h0 hj (fun μ6 h6 hF6 => ?_)
  generalize (nx s + e) % 256 = x at *
  have es : sz (nwM s x n t) x = n := up_self _ _ _
  refine m_lay h6 hx (by rw [es]; exact hn) (by rw [es]; exact ha) (fun μ8 h8 hF8 => ⟨(nI_vp (by omega)).mpr hr, ?_⟩)
  intro μ10 e10
  subst e10
  rw [nI_clamp (by omega)]
  exact hp _ (h8.w_rt (x := r) (v := some x)) ((hF6.trans hF8.fr).trans (Fr.sI m27))
theorem ok_alc {s : St} {x n a r : Nat} {t : Int32} (hO : Ok s) (hx : x < 256) (h0 : sta s x = 0) (hn1 : 1 ≤ n) (hn : n ≤ 12) (ha : a + n ≤ 128) (hfree : ∀ j, a ≤ j → j < a + n → cel s j = none) (hR : ∀ j, inRoom s j → ¬ (a ≤ j ∧ j < a + n)) : Ok (alc s x n t a r) ∧ nx (alc s x n t a r) < 256 := by
  have hw := wf_alc (t := t) (r := r) hO.1.wf hx h0 hn1 hn ha hfree hR
  refine ⟨⟨?_, hO.2⟩, ?_⟩
  · exact inv_new (t := alc s x n t a r) (n := n) (r := r) hO.1 hw h0 rfl rfl rfl rfl rfl rfl rfl rfl rfl rfl
  · show (x + 1) % 256 < 256
    exact Nat.mod_lt _ (by decide)
theorem size_cases (a : Int32) : (∃ n, 1 ≤ n ∧ n ≤ 12 ∧ a = nI n) ∨ (a < 1 ∨ (¬ a < 1 ∧ ¬ a ≤ 12)) := by
  by_cases h : a < 1
  · exact Or.inr (Or.inl h)
  · by_cases h6 : a ≤ 12
    · have h0 : ¬ a < 0 := by
        intro q
        apply h
        rw [Int32.lt_iff_toInt_lt] at *
        have e0 : (0 : Int32).toInt = 0 := by decide
        have e1 : (1 : Int32).toInt = 1 := by decide
        omega
      obtain ⟨j, hj, e⟩ := nI_of2 (M := 12) (n := 12) (by decide) h0 h6
      refine Or.inl ⟨j, ?_, hj, e⟩
      subst e
      rw [li_1, nI_ltI (by omega) (by omega)] at h
      omega
    · exact Or.inr (Or.inr ⟨h, h6⟩)
theorem k_allocate {μ : Mem} {s : St} (h : Rel μ s) (a1 a2 t : Int32) {V1 V2 V3 : Prop} (hV1 : V1) (hV2 : V2) (hV3 : V3) {N B : Mem → Prop} (hN : ∀ μ' s', Rel μ' s' → N μ') : wL_allocate a1 a2 t (fun r18 μ17 => V1 ∧ V2 ∧ V3 ∧ wM_allocate a1 a2 t (fun r23 μ22 => wM_thrown (fun r25 μ24 => ((r25 = r18 → VAL r18 r23 N B μ24) ∧ (¬ r25 = r18 → B μ24))) μ22) μ17) μ := by
  have hR := h
  obtain ⟨h1, h2, h3, ι, h4⟩ := h
  have m23 : ∀ μ1, Rel μ1 s → wM_allocate_23 a1 a2 t (fun r23 μ22 => wM_thrown (fun r25 μ24 => ((r25 = 1 → VAL 1 r23 N B μ24) ∧ (¬ r25 = 1 → B μ24))) μ22) μ1 := by
    intro μ1 hR1
    unfold wM_allocate_23 wM_allocate_24
    intro μ3 e3
    subst e3
    rw [mI_sI_self]
    exact ⟨fun q => absurd q z_no1, fun _ => thr_val (mI_sI_self _ _ _ _) (fun q => absurd q (by decide)) (hN _ s (rel_code hR1 1))⟩
  have c12 : ∀ a : Int32, ¬ a ≤ 12 → 12 < a := fun a q => Int32.not_le.mp q
  unfold wL_allocate wC_allocate
  rcases root_cases a1 with ⟨r, hr, e⟩ | hb
  · subst e
    rcases size_cases a2 with ⟨n, hn1, hn, e⟩ | hs
    · subst e
      have n1 : ¬ nI n < 1 := by rw [li_1, nI_ltI (by omega) (by omega)]; omega
      have n12 : nI n ≤ 12 := by rw [li_12, nI_leI (by omega) (by omega)]; omega
      have n12' : ¬ (12 : Int32) < nI n := by rw [li_12, nI_ltI (by omega) (by omega)]; omega
      -- the reference, entered with the class's work done
      have menter : ∀ (c : Int32) μ4, (wM_allocate_24 (nI r) (nI n) t 0 (fun r23 μ22 => wM_thrown (fun r25 μ24 => ((r25 = c → VAL c r23 N B μ24) ∧ (¬ r25 = c → B μ24))) μ22) μ4) → wM_allocate (nI r) (nI n) t (fun r23 μ22 => wM_thrown (fun r25 μ24 => ((r25 = c → VAL c r23 N B μ24) ∧ (¬ r25 = c → B μ24))) μ22) μ4 := by
        intro c μ4 hm
        unfold wM_allocate
        exact m_root_y hr ⟨fun q => absurd q (by decide), fun _ => ⟨fun q => absurd q n1, fun _ => ⟨fun q => absurd q n12', fun _ => hm⟩⟩⟩
      obtain ⟨o1, x1, pq⟩ := plc_ok h1 hn1 hn
      have hw := h1.1.wf
      refine c_root_y hr ⟨fun q => absurd q (by decide), fun _ => ⟨fun q => absurd q n1, fun _ => ⟨fun _ => ?_, fun q => absurd n12 q⟩⟩⟩
      refine c_find h4 hn1 hn (fun μ3 c3 hF3 => ?_)
      have m3 : MR μ3 s := h3.byC (hF3.mono cm_cl)
      rw [← lv_plc s n] at c3
      have x1' : nx (plc s n).2 < 256 := by rw [x1]; exact h2
      rcases pq with p | ⟨a, p, ha, hfree, hroom⟩
      · -- no place: a collection
        refine ⟨fun _ => ?_, fun q => absurd p q⟩
        have o2 := ok_cll o1
        have x2 : nx (cll (plc s n).2) < 256 := by rw [nx_cll]; exact x1'
        obtain ⟨o3, x3, pq3⟩ := plc_ok o2 hn1 hn
        have x3' : nx (plc (cll (plc s n).2) n).2 < 256 := by rw [x3]; exact x2
        refine c_collect o1 c3 (fun μ14 c14 hF14 => ?_)
        refine c_find c14 hn1 hn (fun μ15 c15 hF15 => ?_)
        rw [← lv_plc (cll (plc s n).2) n] at c15
        have m15 : MR μ15 s := (m3.byC hF14).byC (hF15.mono cm_cl)
        -- the reference up to its second search
        have mgo : ∀ (c : Int32) μ4, MR μ4 s → (∀ μ5, MR μ5 (plc (cll (plc s n).2) n).2 → Fr moS (sI μ4 17 0 0) μ5 → wM_allocate_59 (nI r) (nI n) t (plc (cll (plc s n).2) n).1 (fun r23 μ22 => wM_thrown (fun r25 μ24 => ((r25 = c → VAL c r23 N B μ24) ∧ (¬ r25 = c → B μ24))) μ22) μ5) → wM_allocate (nI r) (nI n) t (fun r23 μ22 => wM_thrown (fun r25 μ24 => ((r25 = c → VAL c r23 N B μ24) ∧ (¬ r25 = c → B μ24))) μ22) μ4 := by
          intro c μ4 m4 hgo
          refine menter c μ4 ?_
          unfold wM_allocate_24
          intro μ5 e5
          subst e5
          rw [mI_sI_self]
          refine ⟨fun _ => ?_, fun q => absurd (by decide) q⟩
          refine m_plc (m4.w_code (v := 0)) hw.pl hn1 hn (fun μ6 h6 hF6 => ?_)
          rw [p]
          refine ⟨fun q => absurd q (by decide), fun _ => ?_⟩
          refine m_collect o1 h6 (fun μ12 h12 hF12 => ?_)
          exact m_plc h12 o2.1.wf.pl hn1 hn (fun μ13 h13 hF13 => hgo μ13 h13 ((hF6.fr.trans hF12).trans hF13.fr))
        rcases pq3 with p3 | ⟨a, p3, ha, hfree, hroom⟩
        · -- still none
          rw [p3]
          unfold wC_allocate_56
          refine ⟨fun _ => ⟨fun q => absurd q (by decide), fun _ => ⟨hV1, hV2, hV3, ?_⟩, fun _ q => absurd rfl q⟩, fun q => absurd rfl q⟩
          refine mgo 2 _ (mr_bump m15 10) (fun μ5 m5 hF5 => ?_)
          rw [p3]
          unfold wM_allocate_59
          refine ⟨fun q => absurd q (by decide), fun _ => ?_⟩
          intro μ11 e11
          subst e11
          have c5 := cr_code ((cr_code (cr_bump c15 10) 0).byM hF5) 2
          exact thr_val (mI_sI_self _ _ _ _) (fun q => absurd q (by decide)) (hN _ _ ⟨o3, x3', m5.w_code, ι, c5⟩)
        · rw [p3]
          generalize hs3 : (plc (cll (plc s n).2) n).2 = s3 at *
          obtain ⟨e, he0, hej⟩ := free_dist o3.1.wf x3'
          have hx : (nx s3 + e) % 256 < 256 := Nat.mod_lt _ (by decide)
          obtain ⟨oA, xA⟩ := ok_alc (t := t) (r := r) o3 hx he0 hn1 hn ha hfree hroom
          refine c_a56 o3 c15 hx he0 hn1 hn ha hfree hr (fun μ16 ι1 c16 hk => out_ok ⟨hV1, hV2, hV3, ?_⟩)
          have m16 : MR (sI μ16 34 0 (nI a)) s := (m15.frame (fun q hq => hk q (by omega))).frame (fun r hr => mI_ne (by omega))
          refine mgo 0 _ m16 (fun μ5 m5 hF5 => ?_)
          rw [p3]
          refine m_a59 o3 x3' m5 he0 hej hn ha hr (fun μ6 m6 hF6 => ?_)
          have hF := hF5.trans hF6
          have c6 := (cr_code (cr_m c16 (r := 34) (j := 0) (v := nI a) o34) 0).byM hF
          refine thr_val (hF.1.2.trans (mI_sI_self _ _ _ _)) (fun _ => ?_) (hN _ _ ⟨oA, xA, m6, ι1, c6⟩)
          rw [keep34 hF, mI_no (by omega), mI_sI_self]
      · refine ⟨fun q => ?_, fun _ => ?_⟩
        · rw [p] at q
          exact absurd q (nI_m1 (by omega))
        · rw [p]
          generalize hs3 : (plc s n).2 = s3 at *
          obtain ⟨e, he0, hej⟩ := free_dist o1.1.wf x1'
          have hx : (nx s3 + e) % 256 < 256 := Nat.mod_lt _ (by decide)
          obtain ⟨oA, xA⟩ := ok_alc (t := t) (r := r) o1 hx he0 hn1 hn ha hfree hroom
          refine c_a56 o1 c3 hx he0 hn1 hn ha hfree hr (fun μ16 ι1 c16 hk => out_ok ⟨hV1, hV2, hV3, ?_⟩)
          have m16 : MR (sI μ16 34 0 (nI a)) s := (m3.frame (fun q hq => hk q (by omega))).frame (fun r hr => mI_ne (by omega))
          refine menter 0 _ ?_
          unfold wM_allocate_24
          intro μ5 e5
          subst e5
          rw [mI_sI_self]
          refine ⟨fun _ => ?_, fun q => absurd (by decide) q⟩
          refine m_plc (m16.w_code (v := 0)) hw.pl hn1 hn (fun μ6 h6 hF6 => ?_)
          rw [hs3] at h6
          rw [p]
          refine ⟨fun _ => ?_, fun q => absurd (nI_pos' (by omega)) q⟩
          refine m_a59 o1 x1' h6 he0 hej hn ha hr (fun μ7 m7 hF7 => ?_)
          have hF := hF6.fr.trans hF7
          have c6 := (cr_code (cr_m c16 (r := 34) (j := 0) (v := nI a) o34) 0).byM hF
          refine thr_val (hF.1.2.trans (mI_sI_self _ _ _ _)) (fun _ => ?_) (hN _ _ ⟨oA, xA, m7, ι1, c6⟩)
          rw [keep34 hF, mI_no (by omega), mI_sI_self]
    · have mm : wM_allocate (nI r) a2 t (fun r23 μ22 => wM_thrown (fun r25 μ24 => ((r25 = 1 → VAL 1 r23 N B μ24) ∧ (¬ r25 = 1 → B μ24))) μ22) (bump μ 7) := by
        unfold wM_allocate
        refine m_root_y hr ⟨fun q => absurd q (by decide), fun _ => ⟨fun _ => m23 _ (rel_bump hR 7), fun q => ⟨fun _ => m23 _ (rel_bump hR 7), fun w => ?_⟩⟩⟩
        rcases hs with z | z
        · exact absurd z q
        · exact absurd (c12 a2 z.2) w
      refine c_root_y hr ⟨fun q => absurd q (by decide), fun _ => ⟨fun _ => ⟨fun _ => ⟨hV1, hV2, hV3, mm⟩, fun q => absurd q (by decide), fun q => absurd rfl q⟩, fun q => ⟨fun w => ?_, fun _ => ⟨fun _ => ⟨hV1, hV2, hV3, mm⟩, fun q => absurd q (by decide), fun q => absurd rfl q⟩⟩⟩⟩
      rcases hs with z | z
      · exact absurd z q
      · exact absurd w z.2
  · refine c_root_n hb ⟨fun _ => ⟨fun _ => ⟨hV1, hV2, hV3, ?_⟩, fun q => absurd q (by decide), fun q => absurd rfl q⟩, fun q => absurd rfl q⟩
    unfold wM_allocate
    exact m_root_n hb ⟨fun _ => m23 _ (rel_bump hR 7), fun q => absurd rfl q⟩
