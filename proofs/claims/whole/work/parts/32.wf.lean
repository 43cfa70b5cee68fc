/-! Living objects own their cells: kept by leaving and by moving -/
def Wf (s : St) : Prop := (∀ x, sta s x ≠ 0 → x < 256 ∧ own s x) ∧ (∀ j x, cel s j = some x → sta s x ≠ 0) ∧ roomI s ∧ ∀ l, lf s l ≤ 1
theorem Wf.lt {s : St} (h : Wf s) {x : Nat} (hx : sta s x ≠ 0) : x < 256 := (h.1 x hx).1
theorem Wf.ow {s : St} (h : Wf s) {x : Nat} (hx : sta s x ≠ 0) : own s x := (h.1 x hx).2
theorem Wf.sm {s : St} (h : Wf s) : small s := fun j x hx => h.lt (h.2.1 j x hx)
theorem Wf.lf1 {s : St} (h : Wf s) : ∀ l, lf s l ≤ 1 := h.2.2.2
theorem Wf.pl {s : St} (h : Wf s) : placeI (pg s) := h.2.2.1.1
theorem Wf.sz1 {s : St} (h : Wf s) {x : Nat} (hx : sta s x ≠ 0) : 1 ≤ sz s x := (h.ow hx).1
theorem Wf.sz12 {s : St} (h : Wf s) {x : Nat} (hx : sta s x ≠ 0) : sz s x ≤ 12 := (h.ow hx).2.1
theorem Wf.end {s : St} (h : Wf s) {x : Nat} (hx : sta s x ≠ 0) : ad s x + sz s x ≤ 128 := (h.ow hx).2.2.1
theorem own.ext {s t : St} {x : Nat} (h : own s x) (e1 : sz t x = sz s x) (e2 : ad t x = ad s x) (e3 : ∀ j, cel t j = some x ↔ cel s j = some x) : own t x := by
  obtain ⟨h1, h2, h3, h4⟩ := h
  unfold own
  rw [e1, e2]
  exact ⟨h1, h2, h3, fun j => (e3 j).trans (h4 j)⟩
theorem Wf.ext {s t : St} (h : Wf s) (e1 : cel t = cel s) (e2 : ∀ x, sta t x ≠ 0 ↔ sta s x ≠ 0) (e3 : ad t = ad s) (e4 : sz t = sz s) (e5 : lf t = lf s) (e6 : pg t = pg s) : Wf t := by
  have g1 : hf t = hf s := congrFun (congrFun e6 17) 13
  have g2 : he t = he s := congrFun (congrFun e6 17) 14
  have g3 : hc t = hc s := congrFun (congrFun e6 17) 15
  have g4 : ov t = ov s := congrFun (congrFun e6 17) 16
  have g5 : oc t = oc s := congrFun (congrFun e6 17) 17
  refine ⟨fun x hx => ?_, fun j x hx => ?_, ⟨?_, ?_, ?_⟩, ?_⟩
  · have := h.1 x ((e2 x).mp hx)
    exact ⟨this.1, this.2.ext (congrFun e4 x) (congrFun e3 x) (fun j => by rw [e1])⟩
  · rw [e1] at hx
    exact (e2 x).mpr (h.2.1 j x hx)
  · rw [e6]; exact h.pl
  · unfold disj
    rw [g1, g2, g4]
    exact h.2.2.1.2.1
  · unfold inRoom
    rw [g1, g2, g3, g4, g5, e1]
    exact h.2.2.1.2.2
  · rw [e5]; exact h.lf1
theorem placeI_of {s t : St} (h : placeI (pg s)) (e1 : hf t = hf s) (e2 : he t = he s) (e3 : hc t = hc s) (e4 : ov t = ov s) (e5 : oc t = oc s) (e6 : ∀ l, lf t l ≤ 1) : placeI (pg t) := by
  refine ⟨fun l _ => ?_, ?_, ?_⟩
  · show zb (nI (lf t l))
    have := e6 l
    have : lf t l = 0 ∨ lf t l = 1 := by omega
    rcases this with z | z
    · rw [z]; exact Or.inl rfl
    · rw [z]; exact Or.inr rfl
  · have := h.2.1
    show hf t = -1 ∨ ∃ f e c : Nat, f < e ∧ e ≤ 32 ∧ 4 * f ≤ c ∧ c ≤ 4 * e ∧ hf t = nI f ∧ he t = nI e ∧ hc t = nI c
    rw [e1, e2, e3]
    exact this
  · have := h.2.2
    show ov t = -1 ∨ ∃ b c : Nat, b < 4 ∧ 32 * b ≤ c ∧ c ≤ 32 * b + 32 ∧ ov t = nI b ∧ oc t = nI c
    rw [e4, e5]
    exact this
theorem sta_los (s : St) (x : Nat) : sta (los s x) = up (sta s) x 0 := rfl
theorem cel_los (s : St) (x : Nat) : cel (los s x) = clr (cel s) (ad s x) (sz s x) := rfl
theorem clr_none {f : Nat → Option Nat} {a n j : Nat} (h : f j = none) : clr f a n j = none := by
  unfold clr
  split
  · rfl
  · exact h
theorem clr_some {f : Nat → Option Nat} {a n j y : Nat} : clr f a n j = some y ↔ f j = some y ∧ ¬ (a ≤ j ∧ j < a + n) := by
  unfold clr
  split
  · rename_i h
    exact ⟨fun z => (by cases z), fun z => absurd h z.2⟩
  · rename_i h
    exact ⟨fun z => ⟨z, h⟩, fun z => z.1⟩
theorem up_live {f : Nat → Nat} {x y : Nat} (h : up f x 0 y ≠ 0) : y ≠ x ∧ f y ≠ 0 := by
  by_cases e : y = x
  · subst e; rw [up_self] at h; exact absurd rfl h
  · rw [up_ne e] at h; exact ⟨e, h⟩
theorem wf_los {s : St} (h : Wf s) {x : Nat} (hx : sta s x ≠ 0) : Wf (los s x) := by
  have ho := (h.ow hx).2.2.2
  refine ⟨fun y hy => ?_, fun j y hj => ?_, ⟨placeI_of h.pl rfl rfl rfl rfl rfl h.lf1, h.2.2.1.2.1, fun j hj => ?_⟩, h.lf1⟩
  · rw [sta_los] at hy
    obtain ⟨e, hy⟩ := up_live hy
    refine ⟨h.lt hy, (h.ow hy).ext rfl rfl (fun j => ?_)⟩
    rw [cel_los, clr_some]
    refine ⟨fun z => z.1, fun z => ⟨z, fun w => ?_⟩⟩
    rw [(ho j).mpr w] at z
    exact e (Option.some.inj z).symm
  · rw [cel_los, clr_some] at hj
    rw [sta_los, up_ne]
    · exact h.2.1 j y hj.1
    · intro e
      subst e
      exact hj.2 ((ho j).mp hj.1)
  · rw [cel_los]
    exact clr_none (h.2.2.1.2.2 j hj)
theorem cel_mvd (s : St) (x a : Nat) : cel (mvd s x a) = put (clr (cel s) (ad s x) (sz s x)) a (sz s x) x := rfl
theorem ad_mvd (s : St) (x a : Nat) : ad (mvd s x a) = up (ad s) x a := rfl
theorem lf_mvd (s : St) (x a : Nat) : lf (mvd s x a) = mrk (lf s) (ad s x) (sz s x) := rfl
theorem mrk_le {f : Nat → Nat} {a n : Nat} (h : ∀ l, f l ≤ 1) : ∀ l, mrk f a n l ≤ 1 := by
  intro l
  unfold mrk
  split
  · omega
  · exact h l
theorem put_some {f : Nat → Option Nat} {a n x j y : Nat} (h : put f a n x j = some y) : (y = x ∧ a ≤ j ∧ j < a + n) ∨ (f j = some y ∧ ¬ (a ≤ j ∧ j < a + n)) := by
  unfold put at h
  split at h
  · rename_i w
    exact Or.inl ⟨(Option.some.inj h).symm, w⟩
  · rename_i w
    exact Or.inr ⟨h, w⟩
/-- moved to free cells that are no longer open -/
theorem wf_mvd {s : St} (h1 : ∀ x, sta s x ≠ 0 → x < 256 ∧ own s x) (h2 : ∀ j x, cel s j = some x → sta s x ≠ 0) (h4 : ∀ l, lf s l ≤ 1) (hI : placeI (pg s)) (hD : disj s) {x a : Nat} (hx : sta s x ≠ 0) (ha : a + sz s x ≤ 128)
    (hfree : ∀ j, a ≤ j → j < a + sz s x → cel s j = none) (hR : ∀ j, inRoom s j → cel s j = none ∧ ¬ (a ≤ j ∧ j < a + sz s x)) : Wf (mvd s x a) := by
  have ho := (h1 x hx).2
  refine ⟨fun y hy => ?_, fun j y hj => ?_, ⟨placeI_of hI rfl rfl rfl rfl rfl (mrk_le h4), hD, fun j hj => ?_⟩, mrk_le h4⟩
  · have hy2 : sta s y ≠ 0 := hy
    refine ⟨(h1 y hy2).1, ?_⟩
    by_cases e : y = x
    · subst e
      refine ⟨ho.1, ho.2.1, ?_, fun j => ?_⟩
      · rw [ad_mvd, up_self]; exact ha
      · rw [ad_mvd, up_self, cel_mvd]
        constructor
        · intro z
          rcases put_some z with w | w
          · exact w.2
          · rw [clr_some] at w
            exact absurd ((ho.2.2.2 j).mp w.1.1) w.1.2
        · intro z
          unfold put
          exact if_pos z
    · refine (h1 y hy2).2.ext rfl (by rw [ad_mvd, up_ne e]) (fun j => ?_)
      · rw [cel_mvd]
        constructor
        · intro z
          rcases put_some z with w | w
          · exact absurd w.1 e
          · rw [clr_some] at w
            exact w.1.1
        · intro z
          have n1 : ¬ (a ≤ j ∧ j < a + sz s x) := fun w => by rw [hfree j w.1 w.2] at z; cases z
          have n2 : ¬ (ad s x ≤ j ∧ j < ad s x + sz s x) := fun w => by
            rw [(ho.2.2.2 j).mpr w] at z
            exact e (Option.some.inj z).symm
          unfold put
          rw [if_neg n1, clr_some]
          exact ⟨z, n2⟩
  · rw [cel_mvd] at hj
    rcases put_some hj with w | w
    · rw [w.1]; exact hx
    · rw [clr_some] at w
      exact h2 j y w.1.1
  · have := hR j hj
    rw [cel_mvd]
    unfold put
    rw [if_neg this.2]
    exact clr_none this.1
theorem shf_cases {s : St} (h : Wf s) {x : Nat} (hx : sta s x ≠ 0) : ((plc s (sz s x)).1 = -1 ∧ shf s x = (plc s (sz s x)).2) ∨ ∃ a, (plc s (sz s x)).1 = nI a ∧ a + sz s x ≤ 128 ∧ (∀ j, a ≤ j → j < a + sz s x → cel s j = none) ∧ shf s x = mvd (plc s (sz s x)).2 x a ∧ ¬ nI a = -1 := by
  obtain ⟨-, -, q⟩ := plc_spec h.2.2.1 h.sm (h.sz1 hx) (h.sz12 hx)
  rcases q with q | ⟨a, q1, q2, q3, -⟩
  · refine Or.inl ⟨q.1, ?_⟩
    unfold shf
    rw [if_pos q.1]
  · have hm : ¬ nI a = -1 := nI_m1 (by omega)
    refine Or.inr ⟨a, q1, q2, q3, ?_, hm⟩
    unfold shf
    rw [if_neg (by rw [q1]; exact hm), q1, num_nI (by omega)]
theorem plc_2 (s : St) (n : Nat) : (plc s n).2 = spl s (placeG (pg s) n).2 := rfl
theorem wf_plc {s : St} (h : Wf s) {n : Nat} (hn1 : 1 ≤ n) (hn : n ≤ 12) : Wf (plc s n).2 := by
  obtain ⟨p1, p2, q⟩ := plc_spec h.2.2.1 h.sm hn1 hn
  have p3 : ∀ j, inRoom (plc s n).2 j → cel s j = none := by
    rcases q with q | ⟨a, -, -, -, q⟩
    · exact q.2
    · exact fun j hj => (q j hj).1
  rw [plc_2] at p1 p2 p3 ⊢
  refine ⟨fun x hx => ?_, ?_, ⟨p1, p2, ?_⟩, ?_⟩
  · rw [spl_sta] at hx
    exact ⟨h.lt hx, (h.ow hx).ext (congrFun (spl_sz _ _) x) (congrFun (spl_ad _ _) x) (fun j => by rw [spl_cel])⟩
  · rw [spl_cel, spl_sta]; exact h.2.1
  · rw [spl_cel]; exact p3
  · rw [spl_lf]; exact h.lf1
theorem wf_shf {s : St} (h : Wf s) {x : Nat} (hx : sta s x ≠ 0) : Wf (shf s x) := by
  obtain ⟨p1, p2, q⟩ := plc_spec h.2.2.1 h.sm (h.sz1 hx) (h.sz12 hx)
  have hw := wf_plc h (h.sz1 hx) (h.sz12 hx)
  rcases shf_cases h hx with ⟨-, e⟩ | ⟨a, e1, e2, e3, e4, e5⟩
  · rw [e]; exact hw
  · rw [e4]
    rcases q with q | ⟨a', q1, q2, q3, q4⟩
    · rw [q.1] at e1; exact absurd e1.symm e5
    · have : a' = a := by
        rw [q1, nI_eq (by omega) (by omega)] at e1
        exact e1
      subst this
      rw [plc_2] at p1 p2 q4 hw ⊢
      refine wf_mvd hw.1 hw.2.1 hw.lf1 p1 p2 ?_ ?_ ?_ ?_
      · rw [spl_sta]; exact hx
      · rw [spl_sz]; exact e2
      · rw [spl_sz, spl_cel]; exact e3
      · rw [spl_sz, spl_cel]; exact q4
theorem c_shift {x : Nat} {K : Mem → Prop} {μ : Mem} {s : St} {ι : Nat → Nat} {d : Int32} {P : Nat → Prop} (h : CR μ s ι d P) (hw : Wf s) (hx : sta s x ≠ 0) (hP : P x) (hp : ∀ μ1, CR μ1 (shf s x) ι d P → Fr cmS μ μ1 → K μ1) : wP_find (mI μ (ι x) 0) (fun r μ1 => wC_moveTo (ι x) r K μ1) μ := by
  have hi := h.it x hP
  rw [hi.psz]
  refine c_find h (hw.sz1 hx) (hw.sz12 hx) (fun μ1 h1 hF => ?_)
  rcases shf_cases hw hx with ⟨e0, e⟩ | ⟨a, e1, e2, e3, e4, e5⟩
  · rw [e0]
    unfold wC_moveTo
    exact ⟨fun _ => hp μ1 (by rw [e]; exact h1) hF, fun q => absurd rfl q⟩
  · rw [e1]
    have hw1 := wf_plc hw (hw.sz1 hx) (hw.sz12 hx)
    rw [e4] at hp
    rw [plc_2] at hp hw1 h1
    refine c_moveTo h1 hP (hw.lt hx) (hw1.ow ?_) ?_ ?_ hw1.sm (fun μ2 h2 hF2 => hp μ2 h2 (hF.trans hF2))
    · rw [spl_sta]; exact hx
    · rw [spl_sz]; exact e2
    · rw [spl_sz, spl_cel]; exact e3
theorem m_shift {x : Nat} {post : Mem → Prop} {μ : Mem} {s : St} (h : MR μ s) (hw : Wf s) (hx : sta s x ≠ 0) (hp : ∀ μ1, MR μ1 (shf s x) → FrK μ μ1 → post μ1) : wM_shift (nI x) post μ := by
  have hlt := hw.lt hx
  have m17 : moS 17 := by unfold moS; omega
  unfold wM_shift
  rw [nI_clamp (by omega), h.psz x hlt]
  refine ⟨(nI_vp (by omega)).mpr hlt, m_plc h hw.pl (hw.sz1 hx) (hw.sz12 hx) (fun μ1 h1 hF => ?_)⟩
  rcases shf_cases hw hx with ⟨e0, e⟩ | ⟨a, e1, e2, e3, e4, e5⟩
  · rw [e0]
    exact ⟨fun _ => hp μ1 (by rw [e]; exact h1) hF, fun q => absurd m1_neg q⟩
  · rw [e1]
    refine ⟨fun q => absurd q (nI_pos (by omega)), fun _ => ?_⟩
    have hw1 := wf_plc hw (hw.sz1 hx) (hw.sz12 hx)
    rw [e4] at hp
    rw [plc_2] at hp hw1 h1
    have hx1 : sta (spl s (placeG (pg s) (sz s x)).2) x ≠ 0 := by rw [spl_sta]; exact hx
    have ez : sz (spl s (placeG (pg s) (sz s x)).2) x = sz s x := by rw [spl_sz]
    generalize spl s (placeG (pg s) (sz s x)).2 = t at hp hw1 h1 hx1 ez
    unfold wM_lift
    rw [nI_clamp (by omega), h1.pad x hlt]
    refine ⟨(nI_vp (by omega)).mpr hlt, sz t x + 1, ?_⟩
    refine m_lift1_loop hlt (hw1.end hx1) (sz t x) 0 _ (by omega) (by rw [clr_0, mrk_0]; exact h1) (fun μ2 h2 hF2 l => ?_)
    refine m_lay h2 hlt (hw1.sz12 hx1) (show a + sz t x ≤ 128 by rw [ez]; exact e2) (fun μ3 h3 hF3 => ?_)
    intro μ6 e6
    subst e6
    refine hp _ ?_ (((hF.tr hF2).tr hF3).tr (frK_sI m17 (by decide) (by omega)))
    rw [h3.pmv]
    exact h3.w_mv
