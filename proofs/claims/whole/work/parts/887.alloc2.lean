/-! allocate -/
theorem wf_alc {s : St} (h : Wf s) {x n a r : Nat} {t : Int32} (hx : x < 256) (h0 : sta s x = 0) (hn1 : 1 ≤ n) (hn : n ≤ 12) (ha : a + n ≤ 128) (hfree : ∀ j, a ≤ j → j < a + n → cel s j = none) (hR : ∀ j, inRoom s j → ¬ (a ≤ j ∧ j < a + n)) : Wf (alc s x n t a r) := by
  have hno : ∀ j, cel s j ≠ some x := fun j e => h.2.1 j x e h0
  have e_sta : sta (alc s x n t a r) = up (sta s) x 1 := rfl
  have e_sz : sz (alc s x n t a r) = up (sz s) x n := rfl
  have e_ad : ad (alc s x n t a r) = up (ad s) x a := rfl
  have e_cel : cel (alc s x n t a r) = put (cel s) a n x := by
    show put (cel s) a (up (sz s) x n x) x = put (cel s) a n x
    rw [up_self]
  refine ⟨fun y hy => ?_, fun j y hj => ?_, ⟨placeI_of h.pl rfl rfl rfl rfl rfl h.lf1, h.2.2.1.2.1, fun j hj => ?_⟩, h.lf1⟩
  · rw [e_sta] at hy
    by_cases e : y = x
    · subst e
      refine ⟨hx, ?_, ?_, ?_, fun j => ?_⟩
      · rw [e_sz, up_self]; exact hn1
      · rw [e_sz, up_self]; exact hn
      · rw [e_sz, e_ad, up_self, up_self]; exact ha
      · rw [e_sz, e_ad, e_cel, up_self, up_self]
        constructor
        · intro z
          rcases put_some z with w | w
          · exact w.2
          · exact absurd w.1 (hno j)
        · intro z
          unfold put
          exact if_pos z
    · rw [up_ne e] at hy
      refine ⟨h.lt hy, (h.ow hy).ext (by rw [e_sz, up_ne e]) (by rw [e_ad, up_ne e]) (fun j => ?_)⟩
      rw [e_cel]
      constructor
      · intro z
        rcases put_some z with w | w
        · exact absurd w.1 e
        · exact w.1
      · intro z
        unfold put
        rw [if_neg (fun w => by rw [hfree j w.1 w.2] at z; cases z)]
        exact z
  · rw [e_cel] at hj
    rw [e_sta]
    rcases put_some hj with w | w
    · rw [w.1, up_self]; omega
    · have := h.2.1 j y w.1
      rw [up_ne (fun q => this (by rw [q]; exact h0))]
      exact this
  · have hj' : inRoom s j := hj
    rw [e_cel]
    unfold put
    rw [if_neg (hR j hj')]
    exact h.2.2.1.2.2 j hj'
/-- a memory with one object more -/
def frsh (μ μ8 : Mem) (y n : Nat) (t : Int32) : Prop := mN μ8 = y + 3 ∧ (∀ r, r < y → mK μ8 r = mK μ r ∧ mL μ8 r = mL μ r ∧ (∀ j, mI μ8 r j = mI μ r j) ∧ ∀ j, mR μ8 r j = mR μ r j) ∧
  mK μ8 y = 5 ∧ mK μ8 (y + 1) = 22 ∧ mK μ8 (y + 2) = 21 ∧ mL μ8 (y + 1) = n ∧ mL μ8 (y + 2) = n ∧ mI μ8 y 0 = nI n ∧ mI μ8 y 1 = t ∧ mI μ8 y 4 = 0 ∧ mI μ8 y 5 = 0 ∧ mI μ8 y 6 = 0 ∧ (∀ i, mR μ8 (y + 1) i = none) ∧ ∀ i, mI μ8 (y + 2) i = 0
theorem map_up {ι : Nat → Nat} {x y : Nat} {o : Option Nat} (h : o ≠ some x) : o.map (up ι x y) = o.map ι := by
  cases o with
  | none => rfl
  | some z =>
    show some (up ι x y z) = some (ι z)
    rw [up_ne (fun e => h (by rw [e]))]
theorem cr_fresh {μ μ8 : Mem} {s : St} {ι : Nat → Nat} {x n : Nat} {t : Int32} (h : CR μ s ι 0 (lv s)) (hw : Wf s) (h0 : sta s x = 0) (hrt : ∀ r y, r < 6 → rt s r = some y → sta s y ≠ 0) (hbf : ∀ r y, r < 6 → bf s r = some y → sta s y ≠ 0) (hrow : ∀ y, y ∈ row s → sta s y ≠ 0) (hf : ∀ x i y, sta s x ≠ 0 → i < sz s x → fl s x i = some y → sta s y ≠ 0)
    (hlog : ∀ (k y i : Nat) (o : Option Nat), (log s)[k]? = some (y, i, o) → sta s y ≠ 0 ∧ ∀ z, o = some z → sta s z ≠ 0) (hM : frsh μ μ8 (mN μ) n t) : CR μ8 (uad (nwM s x n t) (up (ad s) x 0)) (up ι x (mN μ)) 0 (lv (nwM s x n t)) := by
  obtain ⟨q1, q2, k0, k1, k2, l1, l2, i0, i1, i4, i5, i6, r1, r2⟩ := hM
  have h35 : 35 ≤ mN μ := h.lay.1
  have e_sta : sta (nwM s x n t) = up (sta s) x 1 := rfl
  have lvs : ∀ z, lv (nwM s x n t) z → z ≠ x → lv s z := by
    intro z hz e
    have hz' : up (sta s) x 1 z ≠ 0 := hz
    rw [up_ne e] at hz'
    exact hz'
  have al : ∀ z, sta s z ≠ 0 → z ≠ x := fun z hz e => hz (by rw [e]; exact h0)
  have mapl : ∀ o : Option Nat, (∀ z, o = some z → sta s z ≠ 0) → o.map (up ι x (mN μ)) = o.map ι := fun o ho => map_up (fun e => ho x e h0)
  have old : ∀ r, r < mN μ → (∀ j, mI μ8 r j = mI μ r j) ∧ ∀ j, mR μ8 r j = mR μ r j := fun r hr => (q2 r hr).2.2
  have oldI : ∀ r, r < mN μ → mI μ8 r = mI μ r := fun r hr => funext (old r hr).1
  have oldR : ∀ r, r < mN μ → mR μ8 r = mR μ r := fun r hr => funext (old r hr).2
  refine ⟨⟨by omega, fun r q hq => ?_⟩, fun z hz => ?_, fun z w hz hw2 e => ?_, fun a ha => ?_, fun r hr => ?_, fun r hr => ?_, ?_, ?_, ?_, ?_, ?_, ?_, ?_⟩
  · have hl := lay_lt hq
    have := q2 r (by omega)
    rw [this.1, this.2.1]
    exact h.lay.2 r q hq
  · by_cases e : z = x
    · subst e
      have eι : up ι z (mN μ) z = mN μ := up_self _ _ _
      have ef : ∀ i, fl (uad (nwM s z n t) (up (ad s) z 0)) z i = none := fun i => if_pos rfl
      have el : ∀ i, lg (uad (nwM s z n t) (up (ad s) z 0)) z i = 0 := fun i => if_pos rfl
      have es : sz (uad (nwM s z n t) (up (ad s) z 0)) z = n := up_self _ _ _
      have et : tg (uad (nwM s z n t) (up (ad s) z 0)) z = t := up_self _ _ _
      have ea : ad (uad (nwM s z n t) (up (ad s) z 0)) z = 0 := up_self _ _ _
      have ec : ct (uad (nwM s z n t) (up (ad s) z 0)) z = 0 := up_self _ _ _
      have eo : co (uad (nwM s z n t) (up (ad s) z 0)) z = 0 := up_self _ _ _
      unfold itm
      rw [eι, es, et, ea, ec, eo]
      refine ⟨h35, ⟨by omega, k0⟩, ⟨by omega, k1⟩, ⟨by omega, k2⟩, l1, l2, i0, i1, i4, i5, i6, fun i hi => ?_, fun i hi => ?_⟩
      · rw [ef, r1]; rfl
      · rw [el, r2]; rfl
    · have hz2 := lvs z hz e
      have hi := h.it z hz2
      have eι : up ι x (mN μ) z = ι z := up_ne e
      have b0 := hi.o.1
      have b1 := hi.o1.1
      have b2 := hi.o2.1
      have es : sz (uad (nwM s x n t) (up (ad s) x 0)) z = sz s z := up_ne e
      have et : tg (uad (nwM s x n t) (up (ad s) x 0)) z = tg s z := up_ne e
      have ea : ad (uad (nwM s x n t) (up (ad s) x 0)) z = ad s z := up_ne e
      have ec : ct (uad (nwM s x n t) (up (ad s) x 0)) z = ct s z := up_ne e
      have eo : co (uad (nwM s x n t) (up (ad s) x 0)) z = co s z := up_ne e
      have ef : ∀ i, fl (uad (nwM s x n t) (up (ad s) x 0)) z i = fl s z i := fun i => if_neg e
      have el : ∀ i, lg (uad (nwM s x n t) (up (ad s) x 0)) z i = lg s z i := fun i => if_neg e
      unfold itm
      rw [eι, es, et, ea, ec, eo]
      refine ⟨hi.i35, ⟨by omega, ?_⟩, ⟨by omega, ?_⟩, ⟨by omega, ?_⟩, ?_, ?_, ?_, ?_, ?_, ?_, ?_, fun i hik => ?_, fun i hik => ?_⟩
      · rw [(q2 _ b0).1]; exact hi.o.2
      · rw [(q2 _ b1).1]; exact hi.o1.2
      · rw [(q2 _ b2).1]; exact hi.o2.2
      · rw [(q2 _ b1).2.1]; exact hi.l1
      · rw [(q2 _ b2).2.1]; exact hi.l2
      · rw [(old _ b0).1]; exact hi.psz
      · rw [(old _ b0).1]; exact hi.ptg
      · rw [(old _ b0).1]; exact hi.pad
      · rw [(old _ b0).1]; exact hi.pct
      · rw [(old _ b0).1]; exact hi.pco
      · rw [(old _ b1).2, ef, mapl _ (fun w hw3 => hf z i w hz2 hik hw3)]
        exact hi.pfl i hik
      · rw [(old _ b2).1, el]
        exact hi.plg i hik
  · by_cases ez : z = x
    · by_cases ew : w = x
      · rw [ez, ew]
      · exfalso
        rw [ez, up_self, up_ne ew] at e
        have := (h.it w (lvs w hw2 ew)).o.1
        omega
    · by_cases ew : w = x
      · exfalso
        rw [ew, up_self, up_ne ez] at e
        have := (h.it z (lvs z hz ez)).o.1
        omega
      · rw [up_ne ez, up_ne ew] at e
        exact h.inj z w (lvs z hz ez) (lvs w hw2 ew) e
  · rw [oldR 3 (by omega), h.pat a ha]
    have eob : obj (uad (nwM s x n t) (up (ad s) x 0)) a = obj s a := by
      refine opt_ext (fun z => ?_)
      rw [obj_some, obj_some]
      have ec : cel (uad (nwM s x n t) (up (ad s) x 0)) = cel s := rfl
      have ea : ad (uad (nwM s x n t) (up (ad s) x 0)) = up (ad s) x 0 := rfl
      rw [ec, ea]
      constructor
      · intro q
        have := al z (hw.2.1 a z q.1)
        rw [up_ne this] at q
        exact q
      · intro q
        have := al z (hw.2.1 a z q.1)
        rw [up_ne this]
        exact q
    rw [eob, mapl _ (fun z hz => (obj_live hw hz).1)]
  · rw [oldR 1 (by omega), h.prt r hr]
    exact (mapl _ (fun z hz => hrt r z hr hz)).symm
  · rw [oldR 2 (by omega), h.pbf r hr]
    exact (mapl _ (fun z hz => hbf r z hr hz)).symm
  · exact h.pl.frame (fun r hr => oldI r (by omega))
  · obtain ⟨f, w1, w2, w3, w4, w5⟩ := h.wt
    refine ⟨f, w1, by rw [oldI 13 (by omega)]; exact w2, by rw [oldI 13 (by omega)]; exact w3, w4, fun k v hk => ?_⟩
    rw [oldR 14 (by omega), w5 k v hk]
    refine (mapl v (fun z hz => ?_)).symm
    have hk2 : ((row s).map some)[k]? = some v := hk
    rw [hz] at hk2
    obtain ⟨u, hu1, hu2⟩ := List.mem_map.mp (List.mem_of_getElem? hk2)
    have := Option.some.inj hu2
    subst this
    exact hrow u hu1
  · obtain ⟨w1, w2, w3⟩ := h.plo
    refine ⟨by rw [oldI 9 (by omega)]; exact w1, w2, fun k y i o hk => ?_⟩
    obtain ⟨v1, v2, v3⟩ := w3 k y i o hk
    obtain ⟨u1, u2⟩ := hlog k y i o hk
    refine ⟨?_, by rw [oldI 11 (by omega)]; exact v2, ?_⟩
    · rw [oldR 10 (by omega), v1, up_ne (al y u1)]
    · rw [oldR 12 (by omega), v3]
      exact (mapl o u2).symm
  · rw [oldI 0 (by omega)]; exact h.ptr
  · rw [oldI 0 (by omega)]; exact h.pps
  · rw [oldI 0 (by omega)]; exact h.pmv
  · rw [oldI 0 (by omega)]; exact h.pwh
theorem inv_more {s : St} (h : Inv s (bf s)) : (∀ r y, r < 6 → bf s r = some y → sta s y ≠ 0) ∧ (∀ (k y i : Nat) (o : Option Nat), (log s)[k]? = some (y, i, o) → sta s y ≠ 0 ∧ ∀ z, o = some z → sta s z ≠ 0) := by
  obtain ⟨g, S, T, h0, hL, hC, hS, hT⟩ := h
  refine ⟨fun r y hr e => ?_, fun k y i o hk => ?_⟩
  · have := hS.1 y (hS.2.1 r y hr e)
    omega
  · have q := hL.2.1 y i o (List.mem_of_getElem? hk)
    refine ⟨by have := hS.1 y q.1; omega, fun z hz => ?_⟩
    have := hS.1 z (hS.2.2.1 y i z q.1 q.2.1 (by rw [← q.2.2.2]; exact hz))
    omega
theorem frsh_mem {μ : Mem} {n : Nat} {t : Int32} : frsh μ (finO (sR (newA (sR (newA (sI (sI (newO μ 45) (mN μ) 0 (nI n)) (mN μ) 1 t) 22 n) (mN μ) 2 (some (mN μ + 1))) 21 n) (mN μ) 3 (some (mN μ + 2))) (mN μ) 5) (mN μ) n t := by
  have a1 : mN (sI (sI (newO μ 45) (mN μ) 0 (nI n)) (mN μ) 1 t) = mN μ + 1 := rfl
  have a2 : mN (sR (newA (sI (sI (newO μ 45) (mN μ) 0 (nI n)) (mN μ) 1 t) 22 n) (mN μ) 2 (some (mN μ + 1))) = mN μ + 2 := rfl
  refine ⟨rfl, fun r hr => ⟨?_, ?_, fun j => ?_, fun j => ?_⟩, ?_, ?_, ?_, ?_, ?_, ?_, ?_, ?_, ?_, ?_, fun i => ?_, fun i => ?_⟩
  · rw [mK_finO, if_neg (by omega), mK_sR, mK_newA, a2, if_neg (by omega), mK_sR, mK_newA, a1, if_neg (by omega), mK_sI, mK_sI, mK_newO, if_neg (by omega)]
  · rw [mL_finO, mL_sR, mL_newA, a2, if_neg (by omega), mL_sR, mL_newA, a1, if_neg (by omega), mL_sI, mL_sI, mL_newO]
  · rw [mI_finO, mI_sR, mI_newA, a2, if_neg (by omega), mI_sR, mI_newA, a1, if_neg (by omega), mI_no (by omega), mI_no (by omega), mI_newO, if_neg (by omega)]
  · rw [mR_finO, mR_sR, if_neg (by omega), mR_newA, a2, if_neg (by omega), mR_sR, if_neg (by omega), mR_newA, a1, if_neg (by omega), mR_sI, mR_sI, mR_newO, if_neg (by omega)]
  · rw [mK_finO, if_pos rfl]
  · rw [mK_finO, if_neg (by omega), mK_sR, mK_newA, a2, if_neg (by omega), mK_sR, mK_newA, a1, if_pos rfl]
  · rw [mK_finO, if_neg (by omega), mK_sR, mK_newA, a2, if_pos rfl]
  · rw [mL_finO, mL_sR, mL_newA, a2, if_neg (by omega), mL_sR, mL_newA, a1, if_pos rfl]
  · rw [mL_finO, mL_sR, mL_newA, a2, if_pos rfl]
  · rw [mI_finO, mI_sR, mI_newA, a2, if_neg (by omega), mI_sR, mI_newA, a1, if_neg (by omega), mI_no (by omega), mI_sI_self]
  · rw [mI_finO, mI_sR, mI_newA, a2, if_neg (by omega), mI_sR, mI_newA, a1, if_neg (by omega), mI_sI_self]
  · rw [mI_finO, mI_sR, mI_newA, a2, if_neg (by omega), mI_sR, mI_newA, a1, if_neg (by omega), mI_no (by omega), mI_no (by omega), mI_newO, if_pos rfl]
  · rw [mI_finO, mI_sR, mI_newA, a2, if_neg (by omega), mI_sR, mI_newA, a1, if_neg (by omega), mI_no (by omega), mI_no (by omega), mI_newO, if_pos rfl]
  · rw [mI_finO, mI_sR, mI_newA, a2, if_neg (by omega), mI_sR, mI_newA, a1, if_neg (by omega), mI_no (by omega), mI_no (by omega), mI_newO, if_pos rfl]
  · rw [mR_finO, mR_sR, if_neg (by omega), mR_newA, a2, if_neg (by omega), mR_sR, if_neg (by omega), mR_newA, a1, if_pos rfl]
  · rw [mI_finO, mI_sR, mI_newA, a2, if_pos rfl]
