/-! The class finds the reference's place -/
theorem uI_no {A : Gs} {r j x y : Nat} {v : Int32} (h : ¬ (x = r ∧ y = j)) : uI A r j v x y = A x y := if_neg h
theorem uI_self (A : Gs) (r j : Nat) (v : Int32) : uI A r j v r j = v := if_pos ⟨rfl, rfl⟩
theorem uI_row {A : Gs} {r j x : Nat} {v : Int32} (h : x ≠ r) : uI A r j v x = A x := by
  funext y
  exact uI_no (fun z => h z.1)
theorem ovfR.same {μ μ1 : Mem} {A A1 : Gs} (h : ovfR μ A) (h1 : mI μ1 8 = mI μ 8) (h2 : A1 17 16 = A 17 16) (h3 : A1 17 17 = A 17 17) : ovfR μ1 A1 := by
  unfold ovfR
  rw [h1, h2, h3]
  exact h
theorem holeR.same {μ μ1 : Mem} {A A1 : Gs} (h : holeR μ A) (h1 : mI μ1 7 = mI μ 7) (h2 : A1 17 13 = A 17 13) (h3 : A1 17 14 = A 17 14) (h4 : A1 17 15 = A 17 15) : holeR μ1 A1 := by
  unfold holeR
  rw [h1, h2, h3, h4]
  exact h
theorem c_take7 {n : Nat} {post : Int32 → Mem → Prop} {μ : Mem} (hL : Lay μ) (h : post (mI μ 7 1) (sI μ 7 1 (mI μ 7 1 + nI n))) : wS_take 7 (nI n) post μ := by
  unfold wS_take
  refine ⟨lay_ok hL rfl, ?_⟩
  intro μ2 e
  subst e
  exact h
theorem c_take8 {n : Nat} {post : Int32 → Mem → Prop} {μ : Mem} (hL : Lay μ) (h : post (mI μ 8 1) (sI μ 8 1 (mI μ 8 1 + nI n))) : wS_take 8 (nI n) post μ := by
  unfold wS_take
  refine ⟨lay_ok hL rfl, ?_⟩
  intro μ2 e
  subst e
  exact h
theorem opn_fr {μ : Mem} {x l e : Nat} (hx : spS x) : Fr spS μ (opn μ x l e) := by
  have h17 : x ≠ 17 := by unfold spS at hx; omega
  exact ((Fr.sI hx).trans (Fr.sI hx)).trans (Fr.sI hx)
theorem c_findG {n : Nat} (hn1 : 1 ≤ n) (hn : n ≤ 12) {post : Int32 → Mem → Prop} {μ : Mem} {A : Gs} (hL : Lay μ) (hP : PR μ A) (h : ∀ μ1, PR μ1 (placeG A n).2 → Fr spS μ μ1 → post (placeG A n).1 μ1) : wP_find (nI n) post μ := by
  have s7 : spS 7 := Or.inl rfl
  have s8 : spS 8 := Or.inr rfl
  have hO := hP.2.2.2.2
  have hH := hP.2.2.2.1
  unfold wP_find
  refine c_has7 hn1 hn hL hH (fun hy => ⟨fun q => absurd q (by decide), fun _ => ?_⟩) (fun hno => ⟨fun _ => ⟨fun h4 => ?_, fun h4 => ?_⟩, fun q => absurd rfl q⟩)
  · -- the hole has room
    have hG : placeG A n = (A 17 15, uI A 17 15 (nI (num (A 17 15) + n))) := by
      unfold placeG
      rw [if_pos hy]
    rw [hG] at h
    refine c_take7 hL ?_
    rcases hH with ⟨a1, -⟩ | ⟨f, e, c, q1, q2, q3, q4, a1, a2, a3, a5, a6, a7⟩
    · exact absurd a1 hy.1
    · have n2 : num (A 17 14) = e := by rw [a2]; exact nI_clamp (by omega)
      have n3 : num (A 17 15) = c := by rw [a3]; exact nI_clamp (by omega)
      have hroom := hy.2
      rw [n2, n3] at hroom
      rw [n3] at h
      have h2 := h (sI μ 7 1 (mI μ 7 1 + nI n)) (PR.span (A' := uI A 17 15 (nI (c + n))) hP (Fr.sI s7) (uI_row (by decide)) (uI_row (by decide)) (uI_no (by decide)) (Or.inr ⟨f, e, c + n, q1, q2, by omega, by omega, (uI_no (by decide)).trans a1, (uI_no (by decide)).trans a2, uI_self _ _ _ _, (mI_no (by decide)).trans a5, by rw [mI_sI_self, a6, nI_add], (mI_no (by decide)).trans a7⟩) (hO.same (mI_ne (by decide)) (uI_no (by decide)) (uI_no (by decide)))) (Fr.sI s7)
      rw [a6] at h2 ⊢
      rw [a3] at h2
      exact h2
  · -- a larger object
    have hn4 : 4 < n := by
      rw [li_4, nI_ltI (by omega) (by omega)] at h4
      exact h4
    refine c_has8 hn1 hn hL hO (fun hy => ⟨fun q => absurd q (by decide), fun _ => ?_⟩) (fun hno2 => ⟨fun _ => ?_, fun q => absurd rfl q⟩)
    · have hG : placeG A n = (A 17 17, uI A 17 17 (nI (num (A 17 17) + n))) := by
        unfold placeG
        rw [if_neg hno, if_neg (by omega), if_pos hy]
      rw [hG] at h
      refine c_take8 hL ?_
      rcases hO with ⟨a1, -⟩ | ⟨b, c, q1, q2, q3, a1, a3, a5, a6, a7⟩
      · exact absurd a1 hy.1
      · have n2 : num (A 17 16) = b := by rw [a1]; exact nI_clamp (by omega)
        have n3 : num (A 17 17) = c := by rw [a3]; exact nI_clamp (by omega)
        have hroom := hy.2
        rw [n2, n3] at hroom
        rw [n3] at h
        have h2 := h (sI μ 8 1 (mI μ 8 1 + nI n)) (PR.span (A' := uI A 17 17 (nI (c + n))) hP (Fr.sI s8) (uI_row (by decide)) (uI_row (by decide)) (uI_no (by decide)) (hH.same (mI_ne (by decide)) (uI_no (by decide)) (uI_no (by decide)) (uI_no (by decide))) (Or.inr ⟨b, c + n, q1, by omega, by omega, (uI_no (by decide)).trans a1, uI_self _ _ _ _, (mI_no (by decide)).trans a5, by rw [mI_sI_self, a6, nI_add], (mI_no (by decide)).trans a7⟩)) (Fr.sI s8)
        rw [a6] at h2 ⊢
        rw [a3] at h2
        exact h2
    · have hG : placeG A n = blockG A n := by
        unfold placeG
        rw [if_neg hno, if_neg (by omega), if_neg hno2]
      rw [hG] at h
      unfold wP_openOverflow
      refine ⟨5, c_ovf_loop hL hP 4 0 (by omega) (fun j hj => ⟨fun q => absurd q (by decide), fun _ => ?_⟩) (fun hj => ⟨fun _ => ?_, fun q => absurd rfl q⟩)⟩
      · obtain ⟨-, -, hj2⟩ := lst_some hj
        have hB : blockG A n = (nI (32 * j), uI (uI A 17 16 (nI j)) 17 17 (nI (32 * j + n))) := by
          unfold blockG
          rw [hj]
        rw [hB] at h
        have hF := opn_fr (μ := μ) (l := 8 * j) (e := 8 * j + 8) s8
        have o0 : mI (opn μ 8 (8 * j) (8 * j + 8)) 8 0 = nI (32 * j) := by
          unfold opn
          rw [mI_no (by decide), mI_no (by decide), mI_sI_self]
          congr 1
          omega
        have o1 : mI (opn μ 8 (8 * j) (8 * j + 8)) 8 1 = nI (32 * j) := by
          unfold opn
          rw [mI_no (by decide), mI_sI_self]
          congr 1
          omega
        have o2 : mI (opn μ 8 (8 * j) (8 * j + 8)) 8 2 = nI (32 * j + 32) := by
          unfold opn
          rw [mI_sI_self]
          congr 1
          omega
        have o7 : mI (opn μ 8 (8 * j) (8 * j + 8)) 7 = mI μ 7 := by
          unfold opn
          rw [mI_ne (by decide), mI_ne (by decide), mI_ne (by decide)]
        generalize opn μ 8 (8 * j) (8 * j + 8) = μ1 at hF o0 o1 o2 o7 ⊢
        refine c_take8 (hF.Lay hL) ?_
        have h2 := h (sI μ1 8 1 (mI μ1 8 1 + nI n)) (PR.span (A' := uI (uI A 17 16 (nI j)) 17 17 (nI (32 * j + n))) hP (hF.trans (Fr.sI s8)) ((uI_row (by decide)).trans (uI_row (by decide))) ((uI_row (by decide)).trans (uI_row (by decide))) ((uI_no (by decide)).trans (uI_no (by decide)))
          (hH.same ((mI_ne (by decide)).trans o7) ((uI_no (by decide)).trans (uI_no (by decide))) ((uI_no (by decide)).trans (uI_no (by decide))) ((uI_no (by decide)).trans (uI_no (by decide))))
          (Or.inr ⟨j, 32 * j + n, by omega, by omega, by omega, (uI_no (by decide)).trans (uI_self _ _ _ _), uI_self _ _ _ _, (mI_no (by decide)).trans o0, by rw [mI_sI_self, o1, nI_add], (mI_no (by decide)).trans o2⟩)) (hF.trans (Fr.sI s8))
        rw [o1] at h2 ⊢
        exact h2
      · have hB : blockG A n = (-1, A) := by
          unfold blockG
          rw [hj]
        rw [hB] at h
        exact h μ hP (Fr.refl μ)
  · -- a small object: a new hole
    have hn4 : n ≤ 4 := by
      rw [li_4, nI_ltI (by omega) (by omega)] at h4
      omega
    have hG : placeG A n = lineG A n := by
      unfold placeG
      rw [if_neg hno, if_pos hn4]
    rw [hG] at h
    have hfr : fromL A ≤ 32 ∧ mI μ 7 2 / 4 = nI (fromL A) := by
      rcases hH with ⟨a1, a2, a3, a4⟩ | ⟨f, e, c, q1, q2, q3, q4, a1, a2, a3, a5, a6, a7⟩
      · unfold fromL
        rw [if_pos a1, a4]
        exact ⟨by omega, by decide⟩
      · unfold fromL
        rw [if_neg (by rw [a1]; exact nI_m1 (by omega)), a2, a7]
        have n2 : num (nI e) = e := nI_clamp (by omega)
        rw [n2]
        refine ⟨q2, ?_⟩
        have : nI (4 * e) / 4 = nI (4 * e / 4) := nI_div (b := 4) (by omega) (by omega)
        rw [this]
        congr 1
        omega
    unfold wP_openHole wS_endLine
    refine ⟨lay_ok hL rfl, 33, ?_⟩
    rw [hfr.2]
    refine c_hole_loop hfr.1 hL hP 32 0 (by omega) (fun j hj => ⟨fun q => absurd q (by decide), fun _ => ?_⟩) (fun hj => ⟨fun _ => ?_, fun q => absurd rfl q⟩)
    · obtain ⟨-, -, hj2⟩ := lst_some hj
      have hm : (fromL A + j) % 32 < 32 := Nat.mod_lt _ (by decide)
      have hB : lineG A n = (nI (4 * ((fromL A + j) % 32)), uI (uI (uI A 17 13 (nI ((fromL A + j) % 32))) 17 14 (nI (runE A (((fromL A + j) % 32 / 8 + 1) * 8) 8 ((fromL A + j) % 32 + 1)))) 17 15 (nI (4 * ((fromL A + j) % 32) + n))) := by
        unfold lineG
        rw [hj]
      rw [hB] at h
      generalize (fromL A + j) % 32 = l at hm h ⊢
      have hr := runE_le (A := A) (b := (l / 8 + 1) * 8) (d := 8) (k := l + 1) (by omega)
      generalize runE A ((l / 8 + 1) * 8) 8 (l + 1) = e at hr h ⊢
      have hF := opn_fr (μ := μ) (l := l) (e := e) s7
      have o0 : mI (opn μ 7 l e) 7 0 = nI (4 * l) := by
        unfold opn
        rw [mI_no (by decide), mI_no (by decide), mI_sI_self]
      have o1 : mI (opn μ 7 l e) 7 1 = nI (4 * l) := by
        unfold opn
        rw [mI_no (by decide), mI_sI_self]
      have o2 : mI (opn μ 7 l e) 7 2 = nI (4 * e) := by
        unfold opn
        rw [mI_sI_self]
      have o8 : mI (opn μ 7 l e) 8 = mI μ 8 := by
        unfold opn
        rw [mI_ne (by decide), mI_ne (by decide), mI_ne (by decide)]
      generalize opn μ 7 l e = μ1 at hF o0 o1 o2 o8 ⊢
      refine c_take7 (hF.Lay hL) ?_
      have h2 := h (sI μ1 7 1 (mI μ1 7 1 + nI n)) (PR.span (A' := uI (uI (uI A 17 13 (nI l)) 17 14 (nI e)) 17 15 (nI (4 * l + n))) hP (hF.trans (Fr.sI s7)) (((uI_row (by decide)).trans (uI_row (by decide))).trans (uI_row (by decide))) (((uI_row (by decide)).trans (uI_row (by decide))).trans (uI_row (by decide))) (((uI_no (by decide)).trans (uI_no (by decide))).trans (uI_no (by decide)))
        (Or.inr ⟨l, e, 4 * l + n, by omega, by omega, by omega, by omega, ((uI_no (by decide)).trans (uI_no (by decide))).trans (uI_self _ _ _ _), (uI_no (by decide)).trans (uI_self _ _ _ _), uI_self _ _ _ _, (mI_no (by decide)).trans o0, by rw [mI_sI_self, o1, nI_add], (mI_no (by decide)).trans o2⟩)
        (hO.same ((mI_ne (by decide)).trans o8) (((uI_no (by decide)).trans (uI_no (by decide))).trans (uI_no (by decide))) (((uI_no (by decide)).trans (uI_no (by decide))).trans (uI_no (by decide))))) (hF.trans (Fr.sI s7))
      rw [o1] at h2 ⊢
      exact h2
    · have hB : lineG A n = (-1, A) := by
        unfold lineG
        rw [hj]
      rw [hB] at h
      exact h μ hP (Fr.refl μ)
