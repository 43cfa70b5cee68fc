/-! The class's memory against the abstract state -/
def pg (s : St) : Gs := fun r j => if r = 18 then eo (cel s j) else if r = 29 then nI (lf s j) else if r = 17 then (if j = 13 then hf s else if j = 14 then he s else if j = 15 then hc s else if j = 16 then ov s else if j = 17 then oc s else if j = 19 then cl s else 0) else 0
def itm (μ : Mem) (s : St) (ι : Nat → Nat) (x : Nat) : Prop := 35 ≤ ι x ∧ okO μ (ι x) 5 ∧ okO μ (ι x + 1) 22 ∧ okO μ (ι x + 2) 21 ∧ mL μ (ι x + 1) = sz s x ∧ mL μ (ι x + 2) = sz s x ∧
  mI μ (ι x) 0 = nI (sz s x) ∧ mI μ (ι x) 1 = tg s x ∧ mI μ (ι x) 4 = nI (ad s x) ∧ mI μ (ι x) 5 = nI (ct s x) ∧ mI μ (ι x) 6 = nI (co s x) ∧
  (∀ i, i < sz s x → mR μ (ι x + 1) i = (fl s x i).map ι) ∧ (∀ i, i < sz s x → mI μ (ι x + 2) i = nI (lg s x i))
theorem itm.i35 {μ : Mem} {s : St} {ι : Nat → Nat} {x : Nat} (h : itm μ s ι x) : 35 ≤ ι x := h.1
theorem itm.o {μ : Mem} {s : St} {ι : Nat → Nat} {x : Nat} (h : itm μ s ι x) : okO μ (ι x) 5 := h.2.1
theorem itm.o1 {μ : Mem} {s : St} {ι : Nat → Nat} {x : Nat} (h : itm μ s ι x) : okO μ (ι x + 1) 22 := h.2.2.1
theorem itm.o2 {μ : Mem} {s : St} {ι : Nat → Nat} {x : Nat} (h : itm μ s ι x) : okO μ (ι x + 2) 21 := h.2.2.2.1
theorem itm.l1 {μ : Mem} {s : St} {ι : Nat → Nat} {x : Nat} (h : itm μ s ι x) : mL μ (ι x + 1) = sz s x := h.2.2.2.2.1
theorem itm.l2 {μ : Mem} {s : St} {ι : Nat → Nat} {x : Nat} (h : itm μ s ι x) : mL μ (ι x + 2) = sz s x := h.2.2.2.2.2.1
theorem itm.psz {μ : Mem} {s : St} {ι : Nat → Nat} {x : Nat} (h : itm μ s ι x) : mI μ (ι x) 0 = nI (sz s x) := h.2.2.2.2.2.2.1
theorem itm.ptg {μ : Mem} {s : St} {ι : Nat → Nat} {x : Nat} (h : itm μ s ι x) : mI μ (ι x) 1 = tg s x := h.2.2.2.2.2.2.2.1
theorem itm.pad {μ : Mem} {s : St} {ι : Nat → Nat} {x : Nat} (h : itm μ s ι x) : mI μ (ι x) 4 = nI (ad s x) := h.2.2.2.2.2.2.2.2.1
theorem itm.pct {μ : Mem} {s : St} {ι : Nat → Nat} {x : Nat} (h : itm μ s ι x) : mI μ (ι x) 5 = nI (ct s x) := h.2.2.2.2.2.2.2.2.2.1
theorem itm.pco {μ : Mem} {s : St} {ι : Nat → Nat} {x : Nat} (h : itm μ s ι x) : mI μ (ι x) 6 = nI (co s x) := h.2.2.2.2.2.2.2.2.2.2.1
theorem itm.pfl {μ : Mem} {s : St} {ι : Nat → Nat} {x : Nat} (h : itm μ s ι x) : ∀ i, i < sz s x → mR μ (ι x + 1) i = (fl s x i).map ι := h.2.2.2.2.2.2.2.2.2.2.2.1
theorem itm.plg {μ : Mem} {s : St} {ι : Nat → Nat} {x : Nat} (h : itm μ s ι x) : ∀ i, i < sz s x → mI μ (ι x + 2) i = nI (lg s x i) := h.2.2.2.2.2.2.2.2.2.2.2.2
/-- the memory's other regions have changed, the state's other objects too -/
theorem itm.frame {S : Nat → Prop} {μ μ1 : Mem} {s s1 : St} {ι : Nat → Nat} {x : Nat} (h : itm μ s ι x) (hF : Fr S μ μ1) (h0 : mI μ1 (ι x) = mI μ (ι x)) (h1 : mR μ1 (ι x + 1) = mR μ (ι x + 1)) (h2 : mI μ1 (ι x + 2) = mI μ (ι x + 2))
    (q1 : sz s1 x = sz s x) (q2 : tg s1 x = tg s x) (q3 : ad s1 x = ad s x) (q4 : ct s1 x = ct s x) (q5 : co s1 x = co s x) (q6 : fl s1 x = fl s x) (q7 : lg s1 x = lg s x) : itm μ1 s1 ι x := by
  refine ⟨h.i35, hF.ok h.o, hF.ok h.o1, hF.ok h.o2, ?_, ?_, ?_, ?_, ?_, ?_, ?_, ?_, ?_⟩
  · rw [(hF.2.1 _).2, h.l1, q1]
  · rw [(hF.2.1 _).2, h.l2, q1]
  · rw [h0, h.psz, q1]
  · rw [h0, h.ptg, q2]
  · rw [h0, h.pad, q3]
  · rw [h0, h.pct, q4]
  · rw [h0, h.pco, q5]
  · intro i hi
    rw [h1, q6]
    exact h.pfl i (q1 ▸ hi)
  · intro i hi
    rw [h2, q7]
    exact h.plg i (q1 ▸ hi)
def obj (s : St) (a : Nat) : Option Nat := (cel s a).bind fun x => if ad s x = a then some x else none
def ringR (μ : Mem) (ι : Nat → Nat) (x : Nat) (l : List (Option Nat)) : Prop := ∃ f, f < 262 ∧ mI μ x 1 = nI f ∧ mI μ x 2 = nI l.length ∧ l.length ≤ 262 ∧ ∀ (k : Nat) (v : Option Nat), l[k]? = some v → mR μ (x + 1) ((f + k) % 262) = v.map ι
def logR (μ : Mem) (ι : Nat → Nat) (l : List (Nat × Nat × Option Nat)) : Prop := mI μ 9 3 = nI l.length ∧ l.length ≤ 128 ∧ ∀ (k x i : Nat) (o : Option Nat), l[k]? = some (x, i, o) → mR μ 10 k = some (ι x) ∧ mI μ 11 k = nI i ∧ mR μ 12 k = o.map ι
def CR (μ : Mem) (s : St) (ι : Nat → Nat) (d : Int32) (P : Nat → Prop) : Prop := Lay μ ∧ (∀ x, P x → itm μ s ι x) ∧ (∀ x y, P x → P y → ι x = ι y → x = y) ∧ (∀ a, a < 128 → mR μ 3 a = (obj s a).map ι) ∧
  (∀ r, r < 6 → mR μ 1 r = (rt s r).map ι) ∧ (∀ r, r < 6 → mR μ 2 r = (bf s r).map ι) ∧ PR μ (pg s) ∧ ringR μ ι 13 ((row s).map some) ∧ logR μ ι (log s) ∧
  mI μ 0 7 = nI (tr s) ∧ mI μ 0 8 = ps s + d ∧ mI μ 0 9 = mv s ∧ mI μ 0 10 = wh s
theorem CR.lay {μ : Mem} {s : St} {ι : Nat → Nat} {d : Int32} {P : Nat → Prop} (h : CR μ s ι d P) : Lay μ := h.1
theorem CR.it {μ : Mem} {s : St} {ι : Nat → Nat} {d : Int32} {P : Nat → Prop} (h : CR μ s ι d P) : ∀ x, P x → itm μ s ι x := h.2.1
theorem CR.inj {μ : Mem} {s : St} {ι : Nat → Nat} {d : Int32} {P : Nat → Prop} (h : CR μ s ι d P) : ∀ x y, P x → P y → ι x = ι y → x = y := h.2.2.1
theorem CR.pat {μ : Mem} {s : St} {ι : Nat → Nat} {d : Int32} {P : Nat → Prop} (h : CR μ s ι d P) : ∀ a, a < 128 → mR μ 3 a = (obj s a).map ι := h.2.2.2.1
theorem CR.prt {μ : Mem} {s : St} {ι : Nat → Nat} {d : Int32} {P : Nat → Prop} (h : CR μ s ι d P) : ∀ r, r < 6 → mR μ 1 r = (rt s r).map ι := h.2.2.2.2.1
theorem CR.pbf {μ : Mem} {s : St} {ι : Nat → Nat} {d : Int32} {P : Nat → Prop} (h : CR μ s ι d P) : ∀ r, r < 6 → mR μ 2 r = (bf s r).map ι := h.2.2.2.2.2.1
theorem CR.pl {μ : Mem} {s : St} {ι : Nat → Nat} {d : Int32} {P : Nat → Prop} (h : CR μ s ι d P) : PR μ (pg s) := h.2.2.2.2.2.2.1
theorem CR.wt {μ : Mem} {s : St} {ι : Nat → Nat} {d : Int32} {P : Nat → Prop} (h : CR μ s ι d P) : ringR μ ι 13 ((row s).map some) := h.2.2.2.2.2.2.2.1
theorem CR.plo {μ : Mem} {s : St} {ι : Nat → Nat} {d : Int32} {P : Nat → Prop} (h : CR μ s ι d P) : logR μ ι (log s) := h.2.2.2.2.2.2.2.2.1
theorem CR.ptr {μ : Mem} {s : St} {ι : Nat → Nat} {d : Int32} {P : Nat → Prop} (h : CR μ s ι d P) : mI μ 0 7 = nI (tr s) := h.2.2.2.2.2.2.2.2.2.1
theorem CR.pps {μ : Mem} {s : St} {ι : Nat → Nat} {d : Int32} {P : Nat → Prop} (h : CR μ s ι d P) : mI μ 0 8 = ps s + d := h.2.2.2.2.2.2.2.2.2.2.1
theorem CR.pmv {μ : Mem} {s : St} {ι : Nat → Nat} {d : Int32} {P : Nat → Prop} (h : CR μ s ι d P) : mI μ 0 9 = mv s := h.2.2.2.2.2.2.2.2.2.2.2.1
theorem CR.pwh {μ : Mem} {s : St} {ι : Nat → Nat} {d : Int32} {P : Nat → Prop} (h : CR μ s ι d P) : mI μ 0 10 = wh s := h.2.2.2.2.2.2.2.2.2.2.2.2
theorem PR.frame {μ μ1 : Mem} {A : Gs} (h : PR μ A) (hF : ∀ r, 4 ≤ r ∧ r ≤ 8 → mI μ1 r = mI μ r) : PR μ1 A := by
  obtain ⟨p1, p2, p3, p4, p5⟩ := h
  refine ⟨?_, ?_, ?_, ?_, ?_⟩
  · rw [hF 5 (by decide)]; exact p1
  · rw [hF 6 (by decide)]; exact p2
  · rw [hF 4 (by decide)]; exact p3
  · unfold holeR; rw [hF 7 (by decide)]; exact p4
  · unfold ovfR; rw [hF 8 (by decide)]; exact p5
theorem ringR.frame {μ μ1 : Mem} {ι : Nat → Nat} {x : Nat} {l : List (Option Nat)} (h : ringR μ ι x l) (h1 : mI μ1 x = mI μ x) (h2 : mR μ1 (x + 1) = mR μ (x + 1)) : ringR μ1 ι x l := by
  unfold ringR
  rw [h1, h2]
  exact h
theorem logR.frame {μ μ1 : Mem} {ι : Nat → Nat} {l : List (Nat × Nat × Option Nat)} (h : logR μ ι l) (h1 : mI μ1 9 = mI μ 9) (h2 : mR μ1 10 = mR μ 10) (h3 : mI μ1 11 = mI μ 11) (h4 : mR μ1 12 = mR μ 12) : logR μ1 ι l := by
  unfold logR
  rw [h1, h2, h3, h4]
  exact h
/-- what must be shown anew after a change of the class's memory at regions S, with a state that differs where it may -/
theorem CR.mk {S : Nat → Prop} {μ μ1 : Mem} {s s1 : St} {ι : Nat → Nat} {d : Int32} {P : Nat → Prop} (h : CR μ s ι d P) (hF : Fr S μ μ1) (h1 : ∀ x, P x → itm μ1 s1 ι x) (h2 : ∀ a, a < 128 → mR μ1 3 a = (obj s1 a).map ι)
    (h3 : ∀ r, r < 6 → mR μ1 1 r = (rt s1 r).map ι) (h4 : ∀ r, r < 6 → mR μ1 2 r = (bf s1 r).map ι) (h5 : PR μ1 (pg s1)) (h6 : ringR μ1 ι 13 ((row s1).map some)) (h7 : logR μ1 ι (log s1))
    (h8 : mI μ1 0 7 = nI (tr s1)) (h9 : mI μ1 0 8 = ps s1 + d) (h10 : mI μ1 0 9 = mv s1) (h11 : mI μ1 0 10 = wh s1) : CR μ1 s1 ι d P :=
  ⟨hF.Lay h.lay, h1, h.inj, h2, h3, h4, h5, h6, h7, h8, h9, h10, h11⟩
theorem CR.sub {μ : Mem} {s : St} {ι : Nat → Nat} {d : Int32} {P Q : Nat → Prop} (h : CR μ s ι d P) (hq : ∀ x, Q x → P x) : CR μ s ι d Q :=
  ⟨h.1, fun x hx => h.it x (hq x hx), fun x y hx hy => h.inj x y (hq x hx) (hq y hy), h.2.2.2⟩
/-- only regions apart from the class's have changed -/
def outS (r : Nat) : Prop := 15 ≤ r ∧ r ≤ 34
theorem CR.frame {μ μ1 : Mem} {s : St} {ι : Nat → Nat} {d : Int32} {P : Nat → Prop} (h : CR μ s ι d P) (hF : Fr outS μ μ1) : CR μ1 s ι d P := by
  have f : ∀ r, r < 15 → mI μ1 r = mI μ r ∧ mR μ1 r = mR μ r := fun r hr => hF.2.2 r (by unfold outS; omega)
  refine h.mk hF (fun x hx => ?_) ?_ ?_ ?_ ?_ ?_ ?_ ?_ ?_ ?_ ?_
  · have hi := h.it x hx
    have h35 := hi.i35
    exact hi.frame hF (hF.2.2 _ (by unfold outS; omega)).1 (hF.2.2 _ (by unfold outS; omega)).2 (hF.2.2 _ (by unfold outS; omega)).1 rfl rfl rfl rfl rfl rfl rfl
  · rw [(f 3 (by omega)).2]; exact h.pat
  · rw [(f 1 (by omega)).2]; exact h.prt
  · rw [(f 2 (by omega)).2]; exact h.pbf
  · exact h.pl.frame (fun r hr => (f r (by omega)).1)
  · exact h.wt.frame (f 13 (by omega)).1 (f 14 (by omega)).2
  · exact h.plo.frame (f 9 (by omega)).1 (f 10 (by omega)).2 (f 11 (by omega)).1 (f 12 (by omega)).2
  · rw [(f 0 (by omega)).1]; exact h.ptr
  · rw [(f 0 (by omega)).1]; exact h.pps
  · rw [(f 0 (by omega)).1]; exact h.pmv
  · rw [(f 0 (by omega)).1]; exact h.pwh
/-- regions of one object: what is written there leaves the others -/
theorem CR.far {μ : Mem} {s : St} {ι : Nat → Nat} {d : Int32} {P : Nat → Prop} (h : CR μ s ι d P) {x y : Nat} (hx : P x) (hy : P y) : ι y + 1 ≠ ι x ∧ ι y + 2 ≠ ι x ∧ ι y ≠ ι x + 1 ∧ ι y + 2 ≠ ι x + 1 ∧ ι y ≠ ι x + 2 ∧ ι y + 1 ≠ ι x + 2 := by
  have a0 := (h.it x hx).o.2
  have a1 := (h.it x hx).o1.2
  have a2 := (h.it x hx).o2.2
  have b0 := (h.it y hy).o.2
  have b1 := (h.it y hy).o1.2
  have b2 := (h.it y hy).o2.2
  refine ⟨fun e => ?_, fun e => ?_, fun e => ?_, fun e => ?_, fun e => ?_, fun e => ?_⟩
  · rw [e, a0] at b1; omega
  · rw [e, a0] at b2; omega
  · rw [e, a1] at b0; omega
  · rw [e, a1] at b2; omega
  · rw [e, a2] at b0; omega
  · rw [e, a2] at b1; omega
def oneS (r0 r : Nat) : Prop := r = r0
theorem frI {μ : Mem} {r j : Nat} {v : Int32} (hc : ¬ (r = 17 ∧ j = 0) := by omega) : Fr (oneS r) μ (sI μ r j v) := Fr.sI rfl hc
theorem frR {μ : Mem} {r j : Nat} {v : Option Nat} : Fr (oneS r) μ (sR μ r j v) := Fr.sR rfl
/-- a write to a number of an object (its count, its colour) -/
theorem CR.wI {μ : Mem} {s s1 : St} {ι : Nat → Nat} {d : Int32} {P : Nat → Prop} (h : CR μ s ι d P) {x j : Nat} {v : Int32} (hx : P x) (hself : itm (sI μ (ι x) j v) s1 ι x)
    (q : ∀ y, y ≠ x → sz s1 y = sz s y ∧ tg s1 y = tg s y ∧ ad s1 y = ad s y ∧ ct s1 y = ct s y ∧ co s1 y = co s y ∧ fl s1 y = fl s y ∧ lg s1 y = lg s y)
    (g1 : obj s1 = obj s) (g2 : rt s1 = rt s) (g3 : bf s1 = bf s) (g4 : pg s1 = pg s) (g5 : row s1 = row s) (g6 : log s1 = log s) (g7 : tr s1 = tr s) (g8 : ps s1 = ps s) (g9 : mv s1 = mv s) (g10 : wh s1 = wh s) : CR (sI μ (ι x) j v) s1 ι d P := by
  have h35 := (h.it x hx).i35
  have f : ∀ r, r < 35 → mI (sI μ (ι x) j v) r = mI μ r := fun r hr => mI_ne (by omega)
  refine h.mk frI (fun y hy => ?_) ?_ ?_ ?_ ?_ ?_ ?_ ?_ ?_ ?_ ?_
  · by_cases e : y = x
    · subst e; exact hself
    · obtain ⟨q1, q2, q3, q4, q5, q6, q7⟩ := q y e
      have hf := h.far hx hy
      exact (h.it y hy).frame frI (mI_ne (fun z => e (h.inj y x hy hx z))) rfl (mI_ne hf.2.1) q1 q2 q3 q4 q5 q6 q7
  · rw [g1]; exact h.pat
  · rw [g2]; exact h.prt
  · rw [g3]; exact h.pbf
  · rw [g4]; exact h.pl.frame (fun r hr => f r (by omega))
  · rw [g5]; exact h.wt.frame (f 13 (by omega)) rfl
  · rw [g6]; exact h.plo.frame (f 9 (by omega)) rfl (f 11 (by omega)) rfl
  · rw [f 0 (by omega), g7]; exact h.ptr
  · rw [f 0 (by omega), g8]; exact h.pps
  · rw [f 0 (by omega), g9]; exact h.pmv
  · rw [f 0 (by omega), g10]; exact h.pwh
theorem CR.w_co {μ : Mem} {s : St} {ι : Nat → Nat} {d : Int32} {P : Nat → Prop} (h : CR μ s ι d P) {x v : Nat} (hx : P x) : CR (sI μ (ι x) 6 (nI v)) (uco s (up (co s) x v)) ι d P := by
  have hi := h.it x hx
  refine h.wI hx ?_ (fun y e => ⟨rfl, rfl, rfl, rfl, up_ne e, rfl, rfl⟩) rfl rfl rfl rfl rfl rfl rfl rfl rfl rfl
  refine ⟨hi.i35, hi.o, hi.o1, hi.o2, hi.l1, hi.l2, (mI_no (by omega)).trans hi.psz, (mI_no (by omega)).trans hi.ptg, (mI_no (by omega)).trans hi.pad, (mI_no (by omega)).trans hi.pct, ?_, hi.pfl, fun i hi2 => (mI_no (by omega)).trans (hi.plg i hi2)⟩
  rw [mI_sI_self]
  exact congrArg _ (up_self _ _ _).symm
theorem CR.w_ct {μ : Mem} {s : St} {ι : Nat → Nat} {d : Int32} {P : Nat → Prop} (h : CR μ s ι d P) {x v : Nat} (hx : P x) : CR (sI μ (ι x) 5 (nI v)) (uct s (up (ct s) x v)) ι d P := by
  have hi := h.it x hx
  refine h.wI hx ?_ (fun y e => ⟨rfl, rfl, rfl, up_ne e, rfl, rfl, rfl⟩) rfl rfl rfl rfl rfl rfl rfl rfl rfl rfl
  refine ⟨hi.i35, hi.o, hi.o1, hi.o2, hi.l1, hi.l2, (mI_no (by omega)).trans hi.psz, (mI_no (by omega)).trans hi.ptg, (mI_no (by omega)).trans hi.pad, ?_, (mI_no (by omega)).trans hi.pco, hi.pfl, fun i hi2 => (mI_no (by omega)).trans (hi.plg i hi2)⟩
  rw [mI_sI_self]
  exact congrArg _ (up_self _ _ _).symm
