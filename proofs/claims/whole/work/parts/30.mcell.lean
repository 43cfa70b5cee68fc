/-! The reference's places, cells -/
def agP (A B : Gs) : Prop := (∀ j, j < 128 → A 18 j = B 18 j) ∧ (∀ l, l < 32 → A 29 l = B 29 l) ∧ A 17 13 = B 17 13 ∧ A 17 14 = B 17 14 ∧ A 17 15 = B 17 15 ∧ A 17 16 = B 17 16 ∧ A 17 17 = B 17 17 ∧ A 17 19 = B 17 19
theorem free_congr {A B : Gs} (h : agP A B) {l : Nat} (hl : l < 32) : freeP A l ↔ freeP B l := by
  obtain ⟨h1, h2, h3, h4, h5, h6, h7, h8⟩ := h
  unfold freeP usedP takenP cntL ow
  rw [h1 (4 * l) (by omega), h1 (4 * l + 1) (by omega), h1 (4 * l + 2) (by omega), h1 (4 * l + 3) (by omega), h2 l hl, h3, h4, h6, h8]
theorem lst_congr {p q : Nat → Prop} {d k : Nat} (h : ∀ j, k ≤ j → j < k + d → (p j ↔ q j)) : lst p d k = lst q d k := by
  induction d generalizing k with
  | zero => rfl
  | succ d ih =>
    by_cases hp : p k
    · rw [lst_hit hp, lst_hit ((h k (Nat.le_refl _) (by omega)).mp hp)]
    · rw [lst_miss hp, lst_miss (fun z => hp ((h k (Nat.le_refl _) (by omega)).mpr z))]
      exact ih (fun j h1 h2 => h j (by omega) (by omega))
theorem runE_congr {A B : Gs} (h : agP A B) {b : Nat} (hb : b ≤ 32) : ∀ d k, runE A b d k = runE B b d k := by
  intro d
  induction d with
  | zero => intro k; rfl
  | succ d ih =>
    intro k
    by_cases hk : k < b
    · by_cases hp : freeP A k
      · rw [runE_on hk hp, runE_on hk ((free_congr h (by omega)).mp hp)]
        exact ih (k + 1)
      · rw [runE_stop hk hp, runE_stop hk (fun z => hp ((free_congr h (by omega)).mpr z))]
    · rw [runE_out hk, runE_out hk]
theorem agP.u {A B : Gs} (h : agP A B) (j : Nat) (v : Int32) : agP (uI A 17 j v) (uI B 17 j v) := by
  obtain ⟨h1, h2, h3, h4, h5, h6, h7, h8⟩ := h
  have k : ∀ y, A 17 y = B 17 y → uI A 17 j v 17 y = uI B 17 j v 17 y := by
    intro y hy
    by_cases e : y = j
    · subst e; rw [uI_self, uI_self]
    · rw [uI_no (fun z => e z.2), uI_no (fun z => e z.2), hy]
  refine ⟨fun j hj => ?_, fun l hl => ?_, k _ h3, k _ h4, k _ h5, k _ h6, k _ h7, k _ h8⟩
  · rw [uI_row (by decide), uI_row (by decide)]; exact h1 j hj
  · rw [uI_row (by decide), uI_row (by decide)]; exact h2 l hl
theorem fromL_congr {A B : Gs} (h : agP A B) : fromL A = fromL B := by
  unfold fromL
  by_cases e : A 17 13 = -1
  · rw [if_pos e, if_pos (h.2.2.1 ▸ e)]
  · rw [if_neg e, if_neg (h.2.2.1 ▸ e), h.2.2.2.1]
theorem lineG_congr {A B : Gs} (h : agP A B) (n : Nat) : (lineG A n).1 = (lineG B n).1 ∧ agP (lineG A n).2 (lineG B n).2 := by
  unfold lineG
  have e1 : lst (fun k => freeP A ((fromL A + k) % 32)) 32 0 = lst (fun k => freeP B ((fromL B + k) % 32)) 32 0 := by
    rw [fromL_congr h]
    exact lst_congr (fun j _ _ => free_congr h (Nat.mod_lt _ (by decide)))
  rw [e1, fromL_congr h]
  cases hl : lst (fun k => freeP B ((fromL B + k) % 32)) 32 0 with
  | none => exact ⟨rfl, h⟩
  | some k =>
    have hm : (fromL B + k) % 32 < 32 := Nat.mod_lt _ (by decide)
    have e2 : runE A (((fromL B + k) % 32 / 8 + 1) * 8) 8 ((fromL B + k) % 32 + 1) = runE B (((fromL B + k) % 32 / 8 + 1) * 8) 8 ((fromL B + k) % 32 + 1) := runE_congr h (by omega) _ _
    refine ⟨rfl, ?_⟩
    dsimp only
    rw [e2]
    exact ((h.u _ _).u _ _).u _ _
theorem blockG_congr {A B : Gs} (h : agP A B) (n : Nat) : (blockG A n).1 = (blockG B n).1 ∧ agP (blockG A n).2 (blockG B n).2 := by
  unfold blockG
  have e1 : lst (freeB A) 4 0 = lst (freeB B) 4 0 := by
    refine lst_congr (fun j _ hj => ?_)
    unfold freeB
    constructor
    · intro q l h1 h2
      exact (free_congr h (by omega)).mp (q l h1 h2)
    · intro q l h1 h2
      exact (free_congr h (by omega)).mpr (q l h1 h2)
  rw [e1]
  cases hl : lst (freeB B) 4 0 with
  | none => exact ⟨rfl, h⟩
  | some k => exact ⟨rfl, (h.u _ _).u _ _⟩
theorem placeG_congr {A B : Gs} (h : agP A B) (n : Nat) : (placeG A n).1 = (placeG B n).1 ∧ agP (placeG A n).2 (placeG B n).2 := by
  have hh := h
  obtain ⟨h1, h2, h3, h4, h5, h6, h7, h8⟩ := hh
  unfold placeG
  by_cases c1 : A 17 13 ≠ -1 ∧ num (A 17 15) + n ≤ 4 * num (A 17 14)
  · have c1B : B 17 13 ≠ -1 ∧ num (B 17 15) + n ≤ 4 * num (B 17 14) := by rw [← h3, ← h4, ← h5]; exact c1
    rw [if_pos c1, if_pos c1B, h5]
    exact ⟨rfl, h.u _ _⟩
  · have c1B : ¬ (B 17 13 ≠ -1 ∧ num (B 17 15) + n ≤ 4 * num (B 17 14)) := by rw [← h3, ← h4, ← h5]; exact c1
    rw [if_neg c1, if_neg c1B]
    by_cases c2 : n ≤ 4
    · rw [if_pos c2, if_pos c2]
      exact lineG_congr h n
    · rw [if_neg c2, if_neg c2]
      by_cases c3 : A 17 16 ≠ -1 ∧ num (A 17 17) + n ≤ 32 * num (A 17 16) + 32
      · have c3B : B 17 16 ≠ -1 ∧ num (B 17 17) + n ≤ 32 * num (B 17 16) + 32 := by rw [← h6, ← h7]; exact c3
        rw [if_pos c3, if_pos c3B, h7]
        exact ⟨rfl, h.u _ _⟩
      · have c3B : ¬ (B 17 16 ≠ -1 ∧ num (B 17 17) + n ≤ 32 * num (B 17 16) + 32) := by rw [← h6, ← h7]; exact c3
        rw [if_neg c3, if_neg c3B]
        exact blockG_congr h n
theorem MR.ag {μ : Mem} {s : St} (h : MR μ s) : agP (gh μ) (pg s) := ⟨fun j hj => h.pcel j hj, fun l hl => h.plf l hl, h.phf, h.phe, h.phc, h.pov, h.poc, h.pcl⟩
theorem placeI_congr {A B : Gs} (h : agP A B) (hI : placeI B) : placeI A := by
  obtain ⟨h1, h2, h3, h4, h5, h6, h7, h8⟩ := h
  refine ⟨fun l hl => h2 l hl ▸ hI.1 l hl, ?_, ?_⟩
  · rw [h3, h4, h5]; exact hI.2.1
  · rw [h6, h7]; exact hI.2.2
theorem plF_far {μ μ1 : Mem} (h : plF μ μ1) : (∀ r j, ¬ (r = 17 ∧ 13 ≤ j ∧ j ≤ 17) → mI μ1 r j = mI μ r j) ∧ Fr moS μ μ1 := by
  have k : ∀ (μ : Mem) (i : Nat) (v : Int32) (r j : Nat), 13 ≤ i → i ≤ 17 → ¬ (r = 17 ∧ 13 ≤ j ∧ j ≤ 17) → mI (sI μ 17 i v) r j = mI μ r j := fun μ i v r j h1 h2 h3 => mI_no (fun z => h3 ⟨z.1, by omega, by omega⟩)
  have m : moS 17 := by unfold moS; omega
  rcases h with rfl | ⟨a, b, c, rfl⟩ | ⟨a, b, rfl⟩ | ⟨a, rfl⟩ | ⟨a, rfl⟩
  · exact ⟨fun _ _ _ => rfl, Fr.refl _⟩
  · exact ⟨fun r j h => ((k _ 15 _ r j (by omega) (by omega) h).trans (k _ 14 _ r j (by omega) (by omega) h)).trans (k _ 13 _ r j (by omega) (by omega) h), ((Fr.sI m).trans (Fr.sI m)).trans (Fr.sI m)⟩
  · exact ⟨fun r j h => (k _ 17 _ r j (by omega) (by omega) h).trans (k _ 16 _ r j (by omega) (by omega) h), (Fr.sI m).trans (Fr.sI m)⟩
  · exact ⟨fun r j h => k _ 15 _ r j (by omega) (by omega) h, Fr.sI m⟩
  · exact ⟨fun r j h => k _ 17 _ r j (by omega) (by omega) h, Fr.sI m⟩
/-- the reference's step leaves the slots alone -/
def FrK (μ μ1 : Mem) : Prop := Fr moS μ μ1 ∧ mI μ1 33 = mI μ 33 ∧ mI μ1 17 26 = mI μ 17 26
theorem FrK.fr {μ μ1 : Mem} (h : FrK μ μ1) : Fr moS μ μ1 := h.1
theorem frK_refl (μ : Mem) : FrK μ μ := ⟨Fr.refl μ, rfl, rfl⟩
theorem FrK.tr {μ μ1 μ2 : Mem} (h : FrK μ μ1) (g : FrK μ1 μ2) : FrK μ μ2 := ⟨h.1.trans g.1, g.2.1.trans h.2.1, g.2.2.trans h.2.2⟩
theorem frK_sI {μ : Mem} {r j : Nat} {v : Int32} (h : moS r) (h2 : r ≠ 33) (h3 : ¬ (17 = r ∧ 26 = j)) (hc : ¬ (r = 17 ∧ j = 0) := by omega) : FrK μ (sI μ r j v) := ⟨Fr.sI h hc, mI_ne (fun e => h2 e.symm), mI_no h3⟩
theorem m_plc {n : Nat} {post : Int32 → Mem → Prop} {μ : Mem} {s : St} (h : MR μ s) (hI : placeI (pg s)) (hn1 : 1 ≤ n) (hn : n ≤ 12) (hp : ∀ μ1, MR μ1 (plc s n).2 → FrK μ μ1 → post (plc s n).1 μ1) : wM_place (nI n) post μ := by
  have hag := h.ag
  obtain ⟨c1, c2⟩ := placeG_congr hag n
  refine m_place hn1 hn (placeI_congr hag hI) (fun μ1 e1 e2 => ?_)
  obtain ⟨f1, f2⟩ := plF_far e2
  rw [c1]
  refine hp μ1 ?_ ⟨f2, funext (fun j => f1 33 j (by omega)), f1 17 26 (by omega)⟩
  have h2 := h.far5 f1
  rw [← e1] at c2
  obtain ⟨-, -, a3, a4, a5, a6, a7, -⟩ := c2
  have b3 : mI μ1 17 13 = (placeG (pg s) n).2 17 13 := a3
  have b4 : mI μ1 17 14 = (placeG (pg s) n).2 17 14 := a4
  have b5 : mI μ1 17 15 = (placeG (pg s) n).2 17 15 := a5
  have b6 : mI μ1 17 16 = (placeG (pg s) n).2 17 16 := a6
  have b7 : mI μ1 17 17 = (placeG (pg s) n).2 17 17 := a7
  rw [b3, b4, b5, b6, b7] at h2
  exact h2
theorem sI_same (μ : Mem) (r j : Nat) : mI (sI μ r j (mI μ r j)) = mI μ := by
  funext x y
  rw [mI_sI]
  by_cases e : x = r ∧ y = j
  · rw [if_pos e, e.1, e.2]
  · rw [if_neg e]
theorem MR.w_same {μ : Mem} {s : St} (h : MR μ s) {r j : Nat} {v : Int32} (e : v = mI μ r j) : MR (sI μ r j v) s := h.frame (fun q _ => by rw [e, sI_same])
theorem m_lift0_loop {x : Nat} {s : St} (hx : x < 256) (hb : ad s x + sz s x ≤ 128) (hl : ∀ l, lf s l ≤ 1) {K : Int32 → Mem → Prop} : ∀ (e k : Nat) (μ : Mem), k + e = sz s x → MR μ (ucel s (clr (cel s) (ad s x) k)) → (∀ μ1, MR μ1 (ucel s (clr (cel s) (ad s x) (sz s x))) → Fr moS μ μ1 → ∀ l, K l μ1) → wM_lift_7 (nI x) 0 K (e + 1) (nI (ad s x + k)) μ := by
  intro e
  induction e with
  | zero =>
    intro k μ hk hM h
    have : k = sz s x := by omega
    subst this
    have p1 : mI μ 20 x = nI (ad s x) := hM.pad x hx
    have p2 : mI μ 21 x = nI (sz s x) := hM.psz x hx
    unfold wM_lift_7
    rw [nI_clamp (by omega), p1, p2, nI_add, nI_leI (by omega) (by omega)]
    exact ⟨(nI_vp (by omega)).mpr hx, fun _ => h μ hM (Fr.refl μ) _, fun q => absurd (by omega) q⟩
  | succ e ih =>
    intro k μ hk hM h
    have p1 : mI μ 20 x = nI (ad s x) := hM.pad x hx
    have p2 : mI μ 21 x = nI (sz s x) := hM.psz x hx
    have m18 : moS 18 := by unfold moS; omega
    have m29 : moS 29 := by unfold moS; omega
    unfold wM_lift_7
    have e4 : nI (ad s x + k) / 4 = nI ((ad s x + k) / 4) := nI_div (b := 4) (by omega) (by omega)
    rw [nI_clamp (by omega), p1, p2, nI_add, nI_leI (by omega) (by omega), e4, nI_clamp (by omega), nI_clamp (by omega), nI_1]
    refine ⟨(nI_vp (by omega)).mpr hx, fun q => absurd q (by omega), fun _ => ⟨(nI_vp (by omega)).mpr (by omega), ?_⟩⟩
    intro μ4 em
    subst em
    have h2 : MR (sI μ 18 (ad s x + k) (-1)) _ := hM.w_cel (x := ad s x + k) (v := none)
    rw [qq_ucel, q_cel_ucel, clr_s] at h2
    have hl2 : mI (sI μ 18 (ad s x + k) (-1)) 29 ((ad s x + k) / 4) = nI (lf s ((ad s x + k) / 4)) := h2.plf _ (by omega)
    refine ⟨(nI_vp (by omega)).mpr (by omega), fun q => ⟨fun _ => ?_, fun z => absurd rfl z⟩, fun q => ?_⟩
    · intro μ7 e7
      subst e7
      exact ih (k + 1) _ (by omega) (h2.w_same q.symm) (fun μ1 h1 hF l => h μ1 h1 (((Fr.sI m18).trans (Fr.sI m29)).trans hF) l)
    · intro μ7 e7
      subst e7
      refine ih (k + 1) _ (by omega) (h2.w_same ?_) (fun μ1 h1 hF l => h μ1 h1 (((Fr.sI m18).trans (Fr.sI m29)).trans hF) l)
      have := hl ((ad s x + k) / 4)
      rw [hl2] at q ⊢
      have : lf s ((ad s x + k) / 4) = 0 ∨ lf s ((ad s x + k) / 4) = 1 := by omega
      rcases this with z | z
      · rw [z] at q; exact absurd rfl q
      · rw [z]; rfl
theorem m_lift1_loop {x : Nat} {s : St} (hx : x < 256) (hb : ad s x + sz s x ≤ 128) {K : Int32 → Mem → Prop} : ∀ (e k : Nat) (μ : Mem), k + e = sz s x → MR μ (ulf (ucel s (clr (cel s) (ad s x) k)) (mrk (lf s) (ad s x) k)) → (∀ μ1, MR μ1 (mvo s x) → FrK μ μ1 → ∀ l, K l μ1) → wM_lift_7 (nI x) 1 K (e + 1) (nI (ad s x + k)) μ := by
  intro e
  induction e with
  | zero =>
    intro k μ hk hM h
    have : k = sz s x := by omega
    subst this
    have p1 : mI μ 20 x = nI (ad s x) := hM.pad x hx
    have p2 : mI μ 21 x = nI (sz s x) := hM.psz x hx
    unfold wM_lift_7
    rw [nI_clamp (by omega), p1, p2, nI_add, nI_leI (by omega) (by omega)]
    exact ⟨(nI_vp (by omega)).mpr hx, fun _ => h μ hM (frK_refl μ) _, fun q => absurd (by omega) q⟩
  | succ e ih =>
    intro k μ hk hM h
    have p1 : mI μ 20 x = nI (ad s x) := hM.pad x hx
    have p2 : mI μ 21 x = nI (sz s x) := hM.psz x hx
    have m18 : moS 18 := by unfold moS; omega
    have m29 : moS 29 := by unfold moS; omega
    unfold wM_lift_7
    have e4 : nI (ad s x + k) / 4 = nI ((ad s x + k) / 4) := nI_div (b := 4) (by omega) (by omega)
    rw [nI_clamp (by omega), p1, p2, nI_add, nI_leI (by omega) (by omega), e4, nI_clamp (by omega), nI_clamp (by omega), nI_1]
    refine ⟨(nI_vp (by omega)).mpr hx, fun q => absurd q (by omega), fun _ => ⟨(nI_vp (by omega)).mpr (by omega), ?_⟩⟩
    intro μ4 em
    subst em
    have h2 := hM.w_cel (x := ad s x + k) (v := none)
    rw [q_cel_ulf, q_cel_ucel, clr_s, uclf, qq_ucel] at h2
    have h3 := h2.w_lf (x := (ad s x + k) / 4) (v := 1)
    rw [q_lf_ulf, qq_ulf, mrk_s] at h3
    have fin : wM_lift_7 (nI x) 1 K (e + 1) (nI (ad s x + k + 1)) (sI (sI μ 18 (ad s x + k) (-1)) 29 ((ad s x + k) / 4) 1) := ih (k + 1) _ (by omega) h3 (fun μ1 h1 hF l => h μ1 h1 (((frK_sI m18 (by decide) (by omega)).tr (frK_sI m29 (by decide) (by omega))).tr hF) l)
    refine ⟨(nI_vp (by omega)).mpr (by omega), fun q => ⟨fun z => absurd z (by decide), fun _ => ?_⟩, fun q => ?_⟩
    · intro μ7 e7
      subst e7
      exact fin
    · intro μ7 e7
      subst e7
      exact fin
theorem m_lay_loop {x a n : Nat} {s : St} (hx : x < 256) (hn : sz s x = n) (hb : a + n ≤ 128) {K : Int32 → Mem → Prop} : ∀ (e k : Nat) (μ : Mem), k + e = n → MR μ (ucel s (put (cel s) a k x)) → (∀ μ1, MR μ1 (ucel s (put (cel s) a n x)) → FrK μ μ1 → ∀ l, K l μ1) → wM_lay_9 (nI x) (nI a) K (e + 1) (nI k) μ := by
  intro e
  induction e with
  | zero =>
    intro k μ hk hM h
    have : k = n := by omega
    subst this
    have p2 : mI μ 21 x = nI k := by rw [← hn]; exact hM.psz x hx
    unfold wM_lay_9
    rw [nI_clamp (by omega), p2, nI_leI (by omega) (by omega)]
    exact ⟨(nI_vp (by omega)).mpr hx, fun _ => h μ hM (frK_refl μ) _, fun q => absurd (by omega) q⟩
  | succ e ih =>
    intro k μ hk hM h
    have p2 : mI μ 21 x = nI n := by rw [← hn]; exact hM.psz x hx
    have m18 : moS 18 := by unfold moS; omega
    unfold wM_lay_9
    rw [nI_clamp (by omega), p2, nI_leI (by omega) (by omega), nI_add, nI_clamp (by omega), nI_1]
    refine ⟨(nI_vp (by omega)).mpr hx, fun q => absurd q (by omega), fun _ => ⟨(nI_vp (by omega)).mpr (by omega), ?_⟩⟩
    intro μ4 em
    subst em
    have h2 := hM.w_cel (x := a + k) (v := some x)
    rw [qq_ucel, q_cel_ucel, put_s] at h2
    exact ih (k + 1) _ (by omega) h2 (fun μ1 h1 hF l => h μ1 h1 ((frK_sI m18 (by decide) (by omega)).tr hF) l)
theorem m_lay {x a : Nat} {post : Mem → Prop} {μ : Mem} {s : St} (h : MR μ s) (hx : x < 256) (hn : sz s x ≤ 12) (hb : a + sz s x ≤ 128) (hp : ∀ μ1, MR μ1 (lay s x a) → FrK μ μ1 → post μ1) : wM_lay (nI x) (nI a) post μ := by
  have m20 : moS 20 := by unfold moS; omega
  unfold wM_lay
  refine ⟨(nI_vp (by omega)).mpr hx, ?_⟩
  intro μ2 e2
  subst e2
  rw [nI_clamp (by omega)]
  refine ⟨sz s x + 1, m_lay_loop (s := uad s (up (ad s) x a)) (n := sz s x) hx rfl hb (sz s x) 0 _ (by omega) ?_ (fun μ1 h1 hF l => hp μ1 h1 ((frK_sI m20 (by decide) (by omega)).tr hF))⟩
  rw [put_0]
  exact h.w_ad
theorem m_lose {x : Nat} {post : Mem → Prop} {μ : Mem} {s : St} (h : MR μ s) (hx : x < 256) (hb : ad s x + sz s x ≤ 128) (hl : ∀ l, lf s l ≤ 1) (hp : ∀ μ1, MR μ1 (los s x) → Fr moS μ μ1 → post μ1) : wM_lose (nI x) post μ := by
  have m19 : moS 19 := by unfold moS; omega
  unfold wM_lose wM_lift
  refine ⟨(nI_vp (by omega)).mpr hx, ?_⟩
  intro μ2 e2
  subst e2
  rw [nI_clamp (by omega)]
  have h1 : MR (sI μ 19 x 0) (usta s (up (sta s) x 0)) := h.w_sta (v := 0)
  refine ⟨(nI_vp (by omega)).mpr hx, sz s x + 1, ?_⟩
  rw [h1.pad x hx]
  refine m_lift0_loop (s := usta s (up (sta s) x 0)) hx hb hl (sz s x) 0 _ (by show 0 + sz s x = sz s x; omega) ?_ (fun μ1 h1 hF l => hp μ1 h1 ((Fr.sI m19).trans hF))
  rw [clr_0]
  exact h1
noncomputable def shf (s : St) (x : Nat) : St :=
  haveI := Classical.propDecidable ((plc s (sz s x)).1 = -1)
  if (plc s (sz s x)).1 = -1 then (plc s (sz s x)).2 else mvd (plc s (sz s x)).2 x (num (plc s (sz s x)).1)
