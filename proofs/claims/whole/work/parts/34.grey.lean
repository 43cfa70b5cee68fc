/-! White and grey, waiting: both sides -/
def isW (s : St) (x : Nat) : Prop := sta s x = 2 ∧ co s x = 0
def grl (s : St) (l : List Nat) : Nat → Nat := fun y => if y ∈ l ∧ sta s y = 2 ∧ co s y = 0 then 1 else co s y
theorem grl_nil (s : St) : grl s [] = co s := by
  funext y
  unfold grl
  rw [if_neg (fun z => by cases z.1)]
theorem grl_hit {s : St} {l : List Nat} {y : Nat} (h : sta s y = 2 ∧ grl s l y = 0) : grl s (l ++ [y]) = up (grl s l) y 1 := by
  have hz : co s y = 0 := by
    have := h.2
    unfold grl at this
    split at this
    · omega
    · exact this
  funext z
  unfold grl
  by_cases e : z = y
  · subst e
    rw [up_self, if_pos ⟨by simp, h.1, hz⟩]
  · rw [up_ne e]
    by_cases w : z ∈ l ∧ sta s z = 2 ∧ co s z = 0
    · rw [if_pos w, if_pos ⟨by simp [w.1], w.2⟩]
    · rw [if_neg w, if_neg]
      rintro ⟨q1, q2⟩
      rw [List.mem_append] at q1
      rcases q1 with q | q
      · exact w ⟨q, q2⟩
      · simp at q
        exact e q
theorem grl_miss {s : St} {l : List Nat} {y : Nat} (h : ¬ (sta s y = 2 ∧ grl s l y = 0)) : grl s (l ++ [y]) = grl s l := by
  funext z
  unfold grl
  by_cases w : z ∈ l ∧ sta s z = 2 ∧ co s z = 0
  · rw [if_pos w, if_pos ⟨by simp [w.1], w.2⟩]
  · rw [if_neg w, if_neg]
    rintro ⟨q1, q2⟩
    rw [List.mem_append] at q1
    rcases q1 with q | q
    · exact w ⟨q, q2⟩
    · simp at q
      subst q
      refine h ⟨q2.1, ?_⟩
      unfold grl
      rw [if_neg w]
      exact q2.2
theorem grl_le {s : St} {l : List Nat} (h : ∀ x, co s x ≤ 2) : ∀ x, grl s l x ≤ 2 := by
  intro x
  unfold grl
  split
  · omega
  · exact h x
/-- bounds of the small numbers -/
def Bd (s : St) : Prop := (∀ x, sta s x ≤ 2) ∧ (∀ x, ct s x ≤ 3) ∧ (∀ x, co s x ≤ 2) ∧ tr s ≤ 1
theorem m_isWhite {x : Nat} {post : Int32 → Mem → Prop} {μ : Mem} {s : St} (h : MR μ s) (hx : x < 256) (b1 : sta s x ≤ 2) (b2 : co s x ≤ 2) (h1 : isW s x → post 1 μ) (h0 : ¬ isW s x → post 0 μ) : wM_isWhite (nI x) post μ := by
  unfold wM_isWhite
  rw [nI_clamp (by omega), h.psta x hx, h.pco x hx, li_2, li_0, nI_eq (by omega) (by omega), nI_eq (by omega) (by omega)]
  refine ⟨fun q => absurd q (nI_pos (by omega)), fun _ => ⟨(nI_vp (by omega)).mpr hx, fun q => ⟨fun w => h1 ⟨q, w⟩, fun w => h0 (fun z => w z.2)⟩, fun q => h0 (fun z => q z.1)⟩⟩
theorem m_isWhite_none {post : Int32 → Mem → Prop} {μ : Mem} (h0 : post 0 μ) : wM_isWhite (-1) post μ := by
  unfold wM_isWhite
  exact ⟨fun _ => h0, fun q => absurd m1_neg q⟩
theorem m_wait {y : Nat} {post : Mem → Prop} {μ : Mem} {s : St} (h : MR μ s) (hy : y < 2 ^ 31) (hlen : (row s).length < 700) (hp : ∀ μ1, MR μ1 (urow s (row s ++ [y])) → Fr moS μ μ1 → post μ1) : wM_wait (nI y) post μ := by
  have m30 : moS 30 := by unfold moS; omega
  have m17 : moS 17 := by unfold moS; omega
  unfold wM_wait
  rw [h.prowN, nI_clamp (by omega)]
  refine ⟨fun q => absurd q (nI_pos hy), fun _ => ⟨(nI_vp (by omega)).mpr hlen, ?_⟩⟩
  intro μ2 e2 μ3 e3
  subst e2; subst e3
  rw [mI_no (by omega), h.prowN, nI_1]
  exact hp _ h.w_wait ((Fr.sI m30).trans (Fr.sI m17))
theorem m_wait_none {post : Mem → Prop} {μ : Mem} (hp : post μ) : wM_wait (-1) post μ := by
  unfold wM_wait
  exact ⟨fun _ => hp, fun q => absurd m1_neg q⟩
theorem c_isOld {x : Nat} {post : Int32 → Mem → Prop} {μ : Mem} {s : St} {ι : Nat → Nat} (hi : itm μ s ι x) (hb : ct s x ≤ 3) (h1 : 0 < ct s x → post 1 μ) (h0 : ct s x = 0 → post 0 μ) : wI_isOld (ι x) post μ := by
  unfold wI_isOld
  rw [hi.pct, li_0, nI_leI (by omega) (by omega)]
  exact ⟨hi.o, fun q => h0 (by omega), fun q => h1 (by omega)⟩
theorem c_isWhite {x : Nat} {post : Int32 → Mem → Prop} {μ : Mem} {s : St} {ι : Nat → Nat} (hi : itm μ s ι x) (hb : ct s x ≤ 3) (hb2 : co s x ≤ 2) (h1 : 0 < ct s x → co s x = 0 → post 1 μ) (h0 : ¬ (0 < ct s x ∧ co s x = 0) → post 0 μ) : wI_isWhite (ι x) post μ := by
  unfold wI_isWhite
  refine ⟨hi.o, c_isOld hi hb (fun q => ⟨fun w => absurd w (by decide), fun _ => ⟨hi.o, ?_⟩⟩) (fun q => ⟨fun _ => h0 (by omega), fun w => absurd rfl w⟩)⟩
  rw [hi.pco, li_0, nI_eq (by omega) (by omega)]
  exact ⟨fun w => h1 q w, fun w => h0 (by omega)⟩
/-- the class greys one object: the state's colours are those of s with the list l greyed -/
theorem c_grey {y : Nat} {post : Mem → Prop} {μ : Mem} {s t : St} {l : List Nat} {ι : Nat → Nat} {d : Int32} {P : Nat → Prop} (h : CR μ (uco t (grl s l)) ι d P) (hy : P y) (b1 : ct t y ≤ 3) (b2 : ∀ x, co s x ≤ 2) (hag : 0 < ct t y ↔ sta s y = 2)
    (hp : ∀ μ1, CR μ1 (uco t (grl s (l ++ [y]))) ι d P → Fr clS μ μ1 → post μ1) : wI_turnGreyIfWhite (ι y) post μ := by
  have hi := h.it y hy
  have h35 := hi.i35
  unfold wI_turnGreyIfWhite
  refine ⟨hi.o, c_isWhite hi b1 (grl_le b2 y) (fun q1 q2 => ⟨fun w => absurd w (by decide), fun _ => ⟨hi.o, ?_⟩⟩) (fun q => ⟨fun _ => ?_, fun w => absurd rfl w⟩)⟩
  · intro μ5 e5
    subst e5
    have q3 : 0 < ct t y := q1
    have q4 : grl s l y = 0 := q2
    have h2 := h.w_co (v := 1) hy
    rw [q_co_uco, qq_uco, ← grl_hit ⟨hag.mp q3, q4⟩] at h2
    exact hp _ h2 (Fr.sI (by unfold clS; omega))
  · have q3 : ¬ (0 < ct t y ∧ grl s l y = 0) := q
    refine hp μ ?_ (Fr.refl μ)
    rw [grl_miss (fun z => q3 ⟨hag.mpr z.1, z.2⟩)]
    exact h
/-- the reference greys one object -/
theorem m_grey {y : Nat} {K : Mem → Prop} {μ : Mem} {s t : St} {l : List Nat} (h : MR μ (uco t (grl s l))) (hy : y < 256) (e : sta t y = sta s y) (b1 : sta s y ≤ 2) (b2 : ∀ x, co s x ≤ 2) (hp : ∀ μ1, MR μ1 (uco t (grl s (l ++ [y]))) → Fr moS μ μ1 → K μ1) :
    wM_isWhite (nI y) (fun r μ5 => ((r = 0 → K μ5) ∧ (¬ r = 0 → vp_in (nI y) 256 ∧ ∀ μ8, μ8 = sI μ5 24 (nI y).toNatClampNeg 1 → K μ8))) μ := by
  have m24 : moS 24 := by unfold moS; omega
  have e' : sta (uco t (grl s l)) y = sta s y := e
  refine m_isWhite h hy (by rw [e']; exact b1) (grl_le b2 y) (fun q => ⟨fun w => absurd w (by decide), fun _ => ⟨(nI_vp (by omega)).mpr hy, ?_⟩⟩) (fun q => ⟨fun _ => ?_, fun w => absurd rfl w⟩)
  · intro μ8 e8
    subst e8
    rw [nI_clamp (by omega)]
    have h2 : MR (sI μ 24 y 1) _ := h.w_co (x := y) (v := 1)
    rw [q_co_uco, qq_uco, ← grl_hit ⟨e'.symm.trans q.1, q.2⟩] at h2
    exact hp _ h2 (Fr.sI m24)
  · refine hp μ ?_ (Fr.refl μ)
    rw [grl_miss (fun z => q ⟨e'.trans z.1, z.2⟩)]
    exact h
theorem m_objectAt {a : Nat} {post : Int32 → Mem → Prop} {μ : Mem} {s : St} (h : MR μ s) (hw : Wf s) (ha : a ≤ 128) (hp : a < 128 → post (eo (obj s a)) μ) (hp2 : a = 128 → post (-1) μ) : wM_objectAt (nI a) post μ := by
  unfold wM_objectAt
  have e127 : (127 : Int32) = nI 127 := rfl
  rw [e127, nI_ltI (by omega) (by omega)]
  refine ⟨fun q => absurd q (nI_pos (by omega)), fun _ => ⟨fun q => hp2 (by omega), fun q => ⟨(nI_vp (by omega)).mpr (by omega), ?_⟩⟩⟩
  have hlt : a < 128 := by omega
  have hp := hp hlt
  rw [nI_clamp (by omega), h.pcel a hlt]
  rw [obj_eq] at hp
  cases hc : cel s a with
  | none =>
    rw [hc] at hp
    exact ⟨fun q => absurd q eo_neg, fun _ => hp⟩
  | some x =>
    rw [hc] at hp
    have hx := hw.2.1 a x hc
    have hx2 := hw.lt hx
    have ex : eo (some x) = nI x := rfl
    have hp' : post (eo (if ad s x = a then some x else none)) μ := hp
    rw [ex, nI_clamp (by omega), h.pad x hx2, nI_eq (by have := hw.end hx; omega) (by omega)]
    refine ⟨fun _ => ⟨(nI_vp (by omega)).mpr hx2, fun q => ?_, fun q => ?_⟩, fun q => absurd (nI_pos' (by omega)) q⟩
    · rw [if_pos q] at hp'; exact hp'
    · rw [if_neg q] at hp'; exact hp'
def hlds (s : St) (x k : Nat) : List Nat := (List.range k).filterMap (fl s x)
theorem hlds_0 (s : St) (x : Nat) : hlds s x 0 = [] := rfl
theorem hlds_s (s : St) (x k : Nat) : hlds s x (k + 1) = hlds s x k ++ (fl s x k).toList := by
  unfold hlds
  rw [List.range_succ, List.filterMap_append]
  congr 1
theorem hlds_none {s : St} {x k : Nat} (h : fl s x k = none) : hlds s x (k + 1) = hlds s x k := by
  rw [hlds_s, h]
  simp
theorem hlds_some {s : St} {x k y : Nat} (h : fl s x k = some y) : hlds s x (k + 1) = hlds s x k ++ [y] := by
  rw [hlds_s, h]
  simp
theorem hlds_len (s : St) (x k : Nat) : (hlds s x k).length ≤ k := by
  unfold hlds
  have := List.length_filterMap_le (fl s x) (List.range k)
  rw [List.length_range] at this
  exact this
theorem hlds_mem {s : St} {x k y : Nat} : y ∈ hlds s x k ↔ ∃ i, i < k ∧ fl s x i = some y := by
  unfold hlds
  rw [List.mem_filterMap]
  simp only [List.mem_range]
