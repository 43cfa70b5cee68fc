/-! The memory of class, reference and law, by regions (relative to the heap's size at the law's entry), and its picture in the heap -/
abbrev Mem : Type := Nat × (Nat → Nat) × (Nat → Nat) × (Nat → Nat → Int32) × (Nat → Nat → Option Nat)
def mN (μ : Mem) : Nat := μ.1
def mK (μ : Mem) (r : Nat) : Nat := μ.2.1 r
def mL (μ : Mem) (r : Nat) : Nat := μ.2.2.1 r
def mI (μ : Mem) (r j : Nat) : Int32 := μ.2.2.2.1 r j
def mR (μ : Mem) (r j : Nat) : Option Nat := μ.2.2.2.2 r j
def sI (μ : Mem) (r j : Nat) (v : Int32) : Mem := (μ.1, μ.2.1, μ.2.2.1, (fun x y => if x = r ∧ y = j then v else μ.2.2.2.1 x y), μ.2.2.2.2)
def sR (μ : Mem) (r j : Nat) (v : Option Nat) : Mem := (μ.1, μ.2.1, μ.2.2.1, μ.2.2.2.1, fun x y => if x = r ∧ y = j then v else μ.2.2.2.2 x y)
def bump (μ : Mem) (k : Nat) : Mem := (μ.1 + 1, (fun r => if r = μ.1 then k else μ.2.1 r), μ.2.2.1, μ.2.2.2.1, μ.2.2.2.2)
def newO (μ : Mem) (k : Nat) : Mem := (μ.1 + 1, (fun r => if r = μ.1 then k else μ.2.1 r), μ.2.2.1, (fun r j => if r = μ.1 then 0 else μ.2.2.2.1 r j), fun r j => if r = μ.1 then none else μ.2.2.2.2 r j)
def newA (μ : Mem) (k n : Nat) : Mem := (μ.1 + 1, (fun r => if r = μ.1 then k else μ.2.1 r), (fun r => if r = μ.1 then n else μ.2.2.1 r), (fun r j => if r = μ.1 then 0 else μ.2.2.2.1 r j), fun r j => if r = μ.1 then none else μ.2.2.2.2 r j)
def finO (μ : Mem) (r k : Nat) : Mem := (μ.1, (fun x => if x = r then k else μ.2.1 x), μ.2.2.1, μ.2.2.2.1, μ.2.2.2.2)
theorem mN_sI (μ : Mem) (r j : Nat) (v : Int32) : mN (sI μ r j v) = mN μ := rfl
theorem mK_sI (μ : Mem) (r j : Nat) (v : Int32) (x : Nat) : mK (sI μ r j v) x = mK μ x := rfl
theorem mL_sI (μ : Mem) (r j : Nat) (v : Int32) (x : Nat) : mL (sI μ r j v) x = mL μ x := rfl
theorem mR_sI (μ : Mem) (r j : Nat) (v : Int32) (x y : Nat) : mR (sI μ r j v) x y = mR μ x y := rfl
theorem mI_sI (μ : Mem) (r j : Nat) (v : Int32) (x y : Nat) : mI (sI μ r j v) x y = if x = r ∧ y = j then v else mI μ x y := rfl
theorem mN_sR (μ : Mem) (r j : Nat) (v : Option Nat) : mN (sR μ r j v) = mN μ := rfl
theorem mK_sR (μ : Mem) (r j : Nat) (v : Option Nat) (x : Nat) : mK (sR μ r j v) x = mK μ x := rfl
theorem mL_sR (μ : Mem) (r j : Nat) (v : Option Nat) (x : Nat) : mL (sR μ r j v) x = mL μ x := rfl
theorem mI_sR (μ : Mem) (r j : Nat) (v : Option Nat) (x y : Nat) : mI (sR μ r j v) x y = mI μ x y := rfl
theorem mR_sR (μ : Mem) (r j : Nat) (v : Option Nat) (x y : Nat) : mR (sR μ r j v) x y = if x = r ∧ y = j then v else mR μ x y := rfl
theorem mI_sI_self (μ : Mem) (r j : Nat) (v : Int32) : mI (sI μ r j v) r j = v := by rw [mI_sI, if_pos ⟨rfl, rfl⟩]
theorem mR_sR_self (μ : Mem) (r j : Nat) (v : Option Nat) : mR (sR μ r j v) r j = v := by rw [mR_sR, if_pos ⟨rfl, rfl⟩]
theorem mN_newO (μ : Mem) (k : Nat) : mN (newO μ k) = mN μ + 1 := rfl
theorem mK_newO (μ : Mem) (k x : Nat) : mK (newO μ k) x = if x = mN μ then k else mK μ x := rfl
theorem mL_newO (μ : Mem) (k x : Nat) : mL (newO μ k) x = mL μ x := rfl
theorem mI_newO (μ : Mem) (k x y : Nat) : mI (newO μ k) x y = if x = mN μ then 0 else mI μ x y := rfl
theorem mR_newO (μ : Mem) (k x y : Nat) : mR (newO μ k) x y = if x = mN μ then none else mR μ x y := rfl
theorem mN_newA (μ : Mem) (k n : Nat) : mN (newA μ k n) = mN μ + 1 := rfl
theorem mK_newA (μ : Mem) (k n x : Nat) : mK (newA μ k n) x = if x = mN μ then k else mK μ x := rfl
theorem mL_newA (μ : Mem) (k n x : Nat) : mL (newA μ k n) x = if x = mN μ then n else mL μ x := rfl
theorem mI_newA (μ : Mem) (k n x y : Nat) : mI (newA μ k n) x y = if x = mN μ then 0 else mI μ x y := rfl
theorem mR_newA (μ : Mem) (k n x y : Nat) : mR (newA μ k n) x y = if x = mN μ then none else mR μ x y := rfl
theorem mN_finO (μ : Mem) (r k : Nat) : mN (finO μ r k) = mN μ := rfl
theorem mK_finO (μ : Mem) (r k x : Nat) : mK (finO μ r k) x = if x = r then k else mK μ x := rfl
theorem mL_finO (μ : Mem) (r k x : Nat) : mL (finO μ r k) x = mL μ x := rfl
theorem mI_finO (μ : Mem) (r k x y : Nat) : mI (finO μ r k) x y = mI μ x y := rfl
theorem mR_finO (μ : Mem) (r k x y : Nat) : mR (finO μ r k) x y = mR μ x y := rfl
theorem mN_bump (μ : Mem) (k : Nat) : mN (bump μ k) = mN μ + 1 := rfl
theorem mK_bump (μ : Mem) (k x : Nat) : mK (bump μ k) x = if x = mN μ then k else mK μ x := rfl
theorem mL_bump (μ : Mem) (k x : Nat) : mL (bump μ k) x = mL μ x := rfl
theorem mI_bump (μ : Mem) (k x y : Nat) : mI (bump μ k) x y = mI μ x y := rfl
theorem mR_bump (μ : Mem) (k x y : Nat) : mR (bump μ k) x y = mR μ x y := rfl
/-- a region of a kind; an array of a length -/
def okO (μ : Mem) (r k : Nat) : Prop := r < mN μ ∧ mK μ r = k
def okA (μ : Mem) (r k n : Nat) : Prop := r < mN μ ∧ mK μ r = k ∧ mL μ r = n
def zb (v : Int32) : Prop := v = 0 ∨ v = 1
def jmin (x y : Int32) : Int32 := if y < x then y else x
/-- the fixed regions: kind and length -/
def layKs : List (Nat × Nat) := [(0, 0), (22, 6), (22, 6), (22, 128), (1, 0), (20, 32), (21, 32), (2, 0), (2, 0), (3, 0), (22, 128), (20, 128), (22, 128), (4, 0), (22, 262), (4, 0), (22, 262),
  (6, 0), (20, 128), (20, 256), (20, 256), (20, 256), (20, 256), (20, 256), (20, 256), (20, 3072), (21, 3072), (20, 6), (20, 6), (21, 32), (20, 700), (20, 160), (20, 160), (20, 400), (23, 1)]
def Lay (μ : Mem) : Prop := 35 ≤ mN μ ∧ ∀ (r : Nat) (q : Nat × Nat), layKs[r]? = some q → mK μ r = q.1 ∧ mL μ r = q.2
theorem lay_lt {r : Nat} {q : Nat × Nat} (h : layKs[r]? = some q) : r < 35 := (List.getElem?_eq_some_iff.mp h).1
/-- what is fixed for a run: numbers of classes and slots; of the array classes; the base; the script's address, length, ints; whether the fixed regions stand already -/
abbrev Gl : Type := va_G × (Nat → ClassId) × Nat × Nat × Nat × (Nat → Int32) × Bool
def gD (G : Gl) : va_G := G.1
def gA (G : Gl) : Nat → ClassId := G.2.1
def gb (G : Gl) : Nat := G.2.2.1
def ga (G : Gl) : Nat := G.2.2.2.1
def gL (G : Gl) : Nat := G.2.2.2.2.1
def gx (G : Gl) : Nat → Int32 := G.2.2.2.2.2.1
def gf (G : Gl) : Bool := G.2.2.2.2.2.2
def gF (G : Gl) : Nat → Prop := fun q => gb G ≤ q
def gT (G : Gl) : List (ClassId × FieldType) := [(gA G 0, .int), (gA G 1, .boolean), (gA G 2, .object "LineCollector$Item"), (gA G 3, .long)]
def LayG (G : Gl) (μ : Mem) : Prop := gf G = true → Lay μ
theorem lay_O {G : Gl} {μ : Mem} {r k n : Nat} (hg : gf G = true) (h : layKs[r]? = some (k, n)) : LayG G μ → okO μ r k := fun L0 => have L := L0 hg; ⟨Nat.lt_of_lt_of_le (lay_lt h) L.1, (L.2 r _ h).1⟩
theorem lay_A {G : Gl} {μ : Mem} {r k n : Nat} (hg : gf G = true) (h : layKs[r]? = some (k, n)) : LayG G μ → okA μ r k n := fun L0 => have L := L0 hg; ⟨Nat.lt_of_lt_of_le (lay_lt h) L.1, (L.2 r _ h).1, (L.2 r _ h).2⟩
theorem ok_A {G : Gl} {μ : Mem} {r k : Nat} (h : okO μ r k) : LayG G μ → okA μ r k (mL μ r) := fun _ => ⟨h.1, h.2, rfl⟩
theorem ok_O {G : Gl} {μ : Mem} {r k : Nat} (h : okO μ r k) : LayG G μ → okO μ r k := fun _ => h
theorem Lay.sI {μ : Mem} (h : Lay μ) (r j : Nat) (v : Int32) : Lay (sI μ r j v) := h
theorem Lay.sR {μ : Mem} (h : Lay μ) (r j : Nat) (v : Option Nat) : Lay (sR μ r j v) := h
theorem LayG.sI {G : Gl} {μ : Mem} (h : LayG G μ) (r j : Nat) (v : Int32) : LayG G (sI μ r j v) := h
theorem LayG.sR {G : Gl} {μ : Mem} (h : LayG G μ) (r j : Nat) (v : Option Nat) : LayG G (sR μ r j v) := h
theorem Lay.more {μ μ' : Mem} (h : Lay μ) (hN : mN μ ≤ mN μ') (hk : ∀ r, r < mN μ → mK μ' r = mK μ r ∧ mL μ' r = mL μ r) : Lay μ' := by
  refine ⟨Nat.le_trans h.1 hN, fun r q hq => ?_⟩
  have h1 := lay_lt hq
  have h2 := h.1
  have h3 := h.2 r q hq
  obtain ⟨e1, e2⟩ := hk r (by omega)
  rw [e1, e2]
  exact h3
theorem Lay.bump {μ : Mem} (h : Lay μ) (k : Nat) : Lay (bump μ k) := by
  refine ⟨Nat.le_trans h.1 (by rw [mN_bump]; omega), fun r q hq => ?_⟩
  have h1 := lay_lt hq
  have h2 := h.1
  have h3 := h.2 r q hq
  rw [mK_bump, if_neg (by omega), mL_bump]
  exact h3
def rv (G : Gl) (e : Option Nat) : Value := match e with
  | none => .null
  | some r => .ref (gb G + r)
theorem rv_rf (G : Gl) (e : Option Nat) : va_rf (e.map (fun r => gb G + r)) = rv G e := by cases e <;> rfl
theorem rv_cat (G : Gl) (e : Option Nat) : (rv G e).category = 1 := by cases e <;> rfl
theorem map_inj (G : Gl) (e f : Option Nat) : e.map (fun r => gb G + r) = f.map (fun r => gb G + r) ↔ e = f := by
  cases e <;> cases f <;> simp
/-- the shapes of the classes: none: an int; some d: a reference to the region d behind -/
def shp : Nat → List (Option Nat)
  | 0 => [some 1, some 2, some 3, some 4, some 9, some 13, some 15, none, none, none, none]
  | 1 => [some 1, some 2, some 3, some 4, none]
  | 2 => [none, none, none]
  | 3 => [some 1, some 2, some 3, none]
  | 4 => [some 1, none, none]
  | 5 => [none, none, some 1, some 2, none, none, none]
  | 6 => [none, some 1, some 2, some 3, some 4, some 5, some 6, some 7, some 8, some 9, none, some 10, some 11, none, none, none, none, none, some 12, none, some 13, none, some 14, some 15, none, some 16, none, none, none, none, none]
  | _ => []
def fldv (G : Gl) (μ : Mem) (r : Nat) (o : Option Nat × Nat) : Value := match o.1 with
  | none => .int (mI μ r o.2)
  | some d => .ref (gb G + (r + d))
def flds (G : Gl) (μ : Mem) (r ci : Nat) : List Value := (shp ci).zipIdx.map (fldv G μ r)
def flduv (G : Gl) (μ : Mem) (r : Nat) (o : Option Nat × Nat) : Value := match o.1 with
  | none => .int (mI μ r o.2)
  | some _ => rv G (mR μ r o.2)
/-- an object whose constructor isn't through: its references are told -/
def fldu (G : Gl) (μ : Mem) (r ci : Nat) : List Value := (shp ci).zipIdx.map (flduv G μ r)
def rend (G : Gl) (μ : Mem) (r : Nat) : va_E :=
  if mK μ r = 20 then .inl (gA G 0, mL μ r, .inl (mI μ r))
  else if mK μ r = 21 then .inl (gA G 1, mL μ r, .inl (mI μ r))
  else if mK μ r = 22 then .inl (gA G 2, mL μ r, .inr (.inr (.inr (.inr (fun j => (mR μ r j).map (fun x => gb G + x))))))
  else if mK μ r = 23 then .inl (gA G 3, mL μ r, .inr (.inl (fun j => (mI μ r j).toInt64)))
  else if 40 ≤ mK μ r then .inr (mK μ r - 40, fldu G μ r (mK μ r - 40))
  else .inr (mK μ r, flds G μ r (mK μ r))
theorem flds_get {G : Gl} {μ : Mem} {r ci j : Nat} {o : Option Nat} (h : (shp ci)[j]? = some o) : (flds G μ r ci)[j]? = some (fldv G μ r (o, j)) := by
  simp [flds, List.getElem?_map, List.getElem?_zipIdx, h]
theorem flds_len (G : Gl) (μ : Mem) (r ci : Nat) : (flds G μ r ci).length = (shp ci).length := by simp [flds]
theorem flds_set {G : Gl} {μ : Mem} {r ci j : Nat} {v : Int32} (h : (shp ci)[j]? = some none) : flds G (sI μ r j v) r ci = (flds G μ r ci).set j (.int v) := by
  apply List.ext_getElem?
  intro i
  rw [List.getElem?_set, flds_len]
  by_cases hi : j = i
  · subst hi
    rw [if_pos rfl, if_pos (List.getElem?_eq_some_iff.mp h).1, flds_get h]
    simp [fldv, mI_sI]
  · rw [if_neg hi]
    simp only [flds, List.getElem?_map, List.getElem?_zipIdx]
    cases hs : (shp ci)[i]? with
    | none => rfl
    | some o =>
      cases o with
      | none => simp [fldv, mI_sI, Ne.symm hi]
      | some d => rfl
theorem flds_ne {G : Gl} {μ : Mem} {r ci x j : Nat} {v : Int32} (h : x ≠ r) : flds G (sI μ r j v) x ci = flds G μ x ci := by
  unfold flds
  congr 1
  funext o
  obtain ⟨o, i⟩ := o
  cases o with
  | none => simp [fldv, mI_sI, h]
  | some d => rfl
theorem rend_o {G : Gl} {μ : Mem} {r ci : Nat} (h : mK μ r = ci) (hc : ci < 20) : rend G μ r = .inr (ci, flds G μ r ci) := by
  subst h
  unfold rend
  rw [if_neg (by omega), if_neg (by omega), if_neg (by omega), if_neg (by omega), if_neg (by omega)]
theorem rend_u {G : Gl} {μ : Mem} {r ci : Nat} (h : mK μ r = 40 + ci) : rend G μ r = .inr (ci, fldu G μ r ci) := by
  unfold rend
  rw [if_neg (by omega), if_neg (by omega), if_neg (by omega), if_neg (by omega), if_pos (by omega), h, Nat.add_sub_cancel_left]
theorem fldu_get {G : Gl} {μ : Mem} {r ci j : Nat} {o : Option Nat} (h : (shp ci)[j]? = some o) : (fldu G μ r ci)[j]? = some (flduv G μ r (o, j)) := by
  simp [fldu, List.getElem?_map, List.getElem?_zipIdx, h]
theorem fldu_len (G : Gl) (μ : Mem) (r ci : Nat) : (fldu G μ r ci).length = (shp ci).length := by simp [fldu]
theorem fldu_setI {G : Gl} {μ : Mem} {r ci j : Nat} {v : Int32} (h : (shp ci)[j]? = some none) : fldu G (sI μ r j v) r ci = (fldu G μ r ci).set j (.int v) := by
  apply List.ext_getElem?
  intro i
  rw [List.getElem?_set, fldu_len]
  by_cases hi : j = i
  · subst hi
    rw [if_pos rfl, if_pos (List.getElem?_eq_some_iff.mp h).1, fldu_get h]
    simp [flduv, mI_sI]
  · rw [if_neg hi]
    simp only [fldu, List.getElem?_map, List.getElem?_zipIdx]
    cases hs : (shp ci)[i]? with
    | none => rfl
    | some o =>
      cases o with
      | none => simp [flduv, mI_sI, Ne.symm hi]
      | some d => rfl
theorem fldu_setR {G : Gl} {μ : Mem} {r ci j d : Nat} {v : Option Nat} (h : (shp ci)[j]? = some (some d)) : fldu G (sR μ r j v) r ci = (fldu G μ r ci).set j (rv G v) := by
  apply List.ext_getElem?
  intro i
  rw [List.getElem?_set, fldu_len]
  by_cases hi : j = i
  · subst hi
    rw [if_pos rfl, if_pos (List.getElem?_eq_some_iff.mp h).1, fldu_get h]
    simp [flduv, mR_sR]
  · rw [if_neg hi]
    simp only [fldu, List.getElem?_map, List.getElem?_zipIdx]
    cases hs : (shp ci)[i]? with
    | none => rfl
    | some o =>
      cases o with
      | none => rfl
      | some d => simp [flduv, mR_sR, Ne.symm hi]
theorem fldu_ne {G : Gl} {μ : Mem} {r ci x j : Nat} {v : Int32} (h : x ≠ r) : fldu G (sI μ r j v) x ci = fldu G μ x ci := by
  unfold fldu
  congr 1
  funext o
  obtain ⟨o, i⟩ := o
  cases o with
  | none => simp [flduv, mI_sI, h]
  | some d => rfl
theorem fldu_neR {G : Gl} {μ : Mem} {r ci x j : Nat} {v : Option Nat} (h : x ≠ r) : fldu G (sR μ r j v) x ci = fldu G μ x ci := by
  unfold fldu
  congr 1
  funext o
  obtain ⟨o, i⟩ := o
  cases o with
  | none => rfl
  | some d => simp [flduv, mR_sR, h]
theorem rend_i {G : Gl} {μ : Mem} {r n : Nat} (h : okA μ r 20 n) : rend G μ r = .inl (gA G 0, n, .inl (mI μ r)) := by
  unfold rend
  rw [if_pos h.2.1, h.2.2]
theorem rend_z {G : Gl} {μ : Mem} {r n : Nat} (h : okA μ r 21 n) : rend G μ r = .inl (gA G 1, n, .inl (mI μ r)) := by
  unfold rend
  rw [if_neg (by rw [h.2.1]; decide), if_pos h.2.1, h.2.2]
theorem rend_q {G : Gl} {μ : Mem} {r n : Nat} (h : okA μ r 22 n) : rend G μ r = .inl (gA G 2, n, .inr (.inr (.inr (.inr (fun j => (mR μ r j).map (fun x => gb G + x)))))) := by
  unfold rend
  rw [if_neg (by rw [h.2.1]; decide), if_neg (by rw [h.2.1]; decide), if_pos h.2.1, h.2.2]
theorem rend_j {G : Gl} {μ : Mem} {r n : Nat} (h : okA μ r 23 n) : rend G μ r = .inl (gA G 3, n, .inr (.inl (fun j => (mI μ r j).toInt64))) := by
  unfold rend
  rw [if_neg (by rw [h.2.1]; decide), if_neg (by rw [h.2.1]; decide), if_neg (by rw [h.2.1]; decide), if_pos h.2.1, h.2.2]
theorem mI_ne {μ : Mem} {r j x : Nat} {v : Int32} (h : x ≠ r) : mI (sI μ r j v) x = mI μ x := by
  funext y
  rw [mI_sI, if_neg (fun q => h q.1)]
theorem mR_ne {μ : Mem} {r j x : Nat} {v : Option Nat} (h : x ≠ r) : mR (sR μ r j v) x = mR μ x := by
  funext y
  rw [mR_sR, if_neg (fun q => h q.1)]
theorem mI_up {μ : Mem} {r j : Nat} {v : Int32} : mI (sI μ r j v) r = upd (mI μ r) j v := by
  funext y
  rw [mI_sI]
  unfold upd
  by_cases h : y = j
  · rw [if_pos ⟨rfl, h⟩, if_pos h]
  · rw [if_neg (fun q => h q.2), if_neg h]
theorem rend_ne {G : Gl} {μ : Mem} {r j x : Nat} {v : Int32} (h : x ≠ r) : rend G (sI μ r j v) x = rend G μ x := by
  unfold rend
  simp only [mK_sI, mL_sI, mR_sI, mI_ne h, flds_ne h, fldu_ne h]
theorem flds_sR {G : Gl} {μ : Mem} {r j x ci : Nat} {v : Option Nat} : flds G (sR μ r j v) x ci = flds G μ x ci := rfl
theorem rend_neR {G : Gl} {μ : Mem} {r j x : Nat} {v : Option Nat} (h : x ≠ r) : rend G (sR μ r j v) x = rend G μ x := by
  unfold rend
  simp only [mK_sR, mL_sR, mR_ne h, flds_sR, fldu_neR h]
  rfl
theorem LayG.bump {G : Gl} {μ : Mem} (h : LayG G μ) (k : Nat) : LayG G (bump μ k) := fun q => (h q).bump k
/-- the classes that the memory's objects are of -/
def fT_C : u_T := fun k => match k with
  | 0 => ("LineCollector", "roots", "[LLineCollector$Item;", true)
  | 1 => ("LineCollector", "rootsAtLastPause", "[LLineCollector$Item;", true)
  | 2 => ("LineCollector", "itemAt", "[LLineCollector$Item;", true)
  | 3 => ("LineCollector", "places", "LLineCollector$Places;", true)
  | 4 => ("LineCollector", "log", "LLineCollector$Log;", true)
  | 5 => ("LineCollector", "waiting", "LLineCollector$Row;", true)
  | 6 => ("LineCollector", "slots", "LLineCollector$Row;", true)
  | 7 => ("LineCollector", "traceRuns", "Z", false)
  | 8 => ("LineCollector", "pauses", "I", false)
  | 9 => ("LineCollector", "moves", "I", false)
  | _ => ("LineCollector", "goneAsWhite", "I", false)
def fT_P : u_T := fun k => match k with
  | 0 => ("LineCollector$Places", "cellsOwned", "[I", true)
  | 1 => ("LineCollector$Places", "movedOut", "[Z", true)
  | 2 => ("LineCollector$Places", "hole", "LLineCollector$Span;", true)
  | 3 => ("LineCollector$Places", "overflow", "LLineCollector$Span;", true)
  | _ => ("LineCollector$Places", "shutBlock", "I", false)
def fT_S : u_T := fun k => match k with
  | 0 => ("LineCollector$Span", "start", "I", false)
  | 1 => ("LineCollector$Span", "cursor", "I", false)
  | _ => ("LineCollector$Span", "end", "I", false)
def fT_G : u_T := fun k => match k with
  | 0 => ("LineCollector$Log", "items", "[LLineCollector$Item;", true)
  | 1 => ("LineCollector$Log", "fields", "[I", true)
  | 2 => ("LineCollector$Log", "before", "[LLineCollector$Item;", true)
  | _ => ("LineCollector$Log", "length", "I", false)
def fT_W : u_T := fun k => match k with
  | 0 => ("LineCollector$Row", "items", "[LLineCollector$Item;", true)
  | 1 => ("LineCollector$Row", "first", "I", false)
  | _ => ("LineCollector$Row", "length", "I", false)
def fT_I : u_T := fun k => match k with
  | 0 => ("LineCollector$Item", "size", "I", true)
  | 1 => ("LineCollector$Item", "tag", "I", true)
  | 2 => ("LineCollector$Item", "held", "[LLineCollector$Item;", true)
  | 3 => ("LineCollector$Item", "logged", "[Z", true)
  | 4 => ("LineCollector$Item", "address", "I", false)
  | 5 => ("LineCollector$Item", "count", "I", false)
  | _ => ("LineCollector$Item", "colour", "I", false)
def fT_M : u_T := fun k => match k with
  | 0 => ("LineCollectorModel", "code", "I", false)
  | 1 => ("LineCollectorModel", "cells", "[I", true)
  | 2 => ("LineCollectorModel", "state", "[I", true)
  | 3 => ("LineCollectorModel", "at", "[I", true)
  | 4 => ("LineCollectorModel", "size", "[I", true)
  | 5 => ("LineCollectorModel", "tag", "[I", true)
  | 6 => ("LineCollectorModel", "count", "[I", true)
  | 7 => ("LineCollectorModel", "colour", "[I", true)
  | 8 => ("LineCollectorModel", "fields", "[I", true)
  | 9 => ("LineCollectorModel", "logged", "[Z", true)
  | 10 => ("LineCollectorModel", "next", "I", false)
  | 11 => ("LineCollectorModel", "roots", "[I", true)
  | 12 => ("LineCollectorModel", "before", "[I", true)
  | 13 => ("LineCollectorModel", "holeFrom", "I", false)
  | 14 => ("LineCollectorModel", "holeEnd", "I", false)
  | 15 => ("LineCollectorModel", "holeCursor", "I", false)
  | 16 => ("LineCollectorModel", "overflow", "I", false)
  | 17 => ("LineCollectorModel", "overflowCursor", "I", false)
  | 18 => ("LineCollectorModel", "left", "[Z", true)
  | 19 => ("LineCollectorModel", "cleared", "I", false)
  | 20 => ("LineCollectorModel", "row", "[I", true)
  | 21 => ("LineCollectorModel", "waiting", "I", false)
  | 22 => ("LineCollectorModel", "logField", "[I", true)
  | 23 => ("LineCollectorModel", "logOld", "[I", true)
  | 24 => ("LineCollectorModel", "logs", "I", false)
  | 25 => ("LineCollectorModel", "slots", "[I", true)
  | 26 => ("LineCollectorModel", "slotted", "I", false)
  | 27 => ("LineCollectorModel", "traces", "Z", false)
  | 28 => ("LineCollectorModel", "pauses", "I", false)
  | 29 => ("LineCollectorModel", "moves", "I", false)
  | _ => ("LineCollectorModel", "whites", "I", false)
def fT_0 : u_T := fun _ => ("", "", "", false)
def CL : List vw_C := [("LineCollector", fT_C, 11), ("LineCollector$Places", fT_P, 5), ("LineCollector$Span", fT_S, 3), ("LineCollector$Log", fT_G, 4), ("LineCollector$Row", fT_W, 3), ("LineCollector$Item", fT_I, 7), ("LineCollectorModel", fT_M, 31),
  ("java/lang/IllegalArgumentException", fT_0, 0), ("java/lang/IllegalStateException", fT_0, 0), ("java/lang/IndexOutOfBoundsException", fT_0, 0), ("java/lang/UnsupportedOperationException", fT_0, 0), ("java/util/NoSuchElementException", fT_0, 0)]
theorem cl_lt {ci : Nat} {q : vw_C} (h : CL[ci]? = some q) : ci < 12 := (List.getElem?_eq_some_iff.mp h).1
theorem cl_ind {P : Nat → vw_C → Prop} (h0 : P 0 ("LineCollector", fT_C, 11)) (h1 : P 1 ("LineCollector$Places", fT_P, 5)) (h2 : P 2 ("LineCollector$Span", fT_S, 3)) (h3 : P 3 ("LineCollector$Log", fT_G, 4)) (h4 : P 4 ("LineCollector$Row", fT_W, 3)) (h5 : P 5 ("LineCollector$Item", fT_I, 7)) (h6 : P 6 ("LineCollectorModel", fT_M, 31))
    (h7 : ∀ ci C, 7 ≤ ci → P ci (C, fT_0, 0)) {ci : Nat} {q : vw_C} (h : CL[ci]? = some q) : P ci q := by
  have hlt := cl_lt h
  match ci, h, hlt with
  | 0, h, _ => cases h; exact h0
  | 1, h, _ => cases h; exact h1
  | 2, h, _ => cases h; exact h2
  | 3, h, _ => cases h; exact h3
  | 4, h, _ => cases h; exact h4
  | 5, h, _ => cases h; exact h5
  | 6, h, _ => cases h; exact h6
  | 7, h, _ => cases h; exact h7 7 _ (by decide)
  | 8, h, _ => cases h; exact h7 8 _ (by decide)
  | 9, h, _ => cases h; exact h7 9 _ (by decide)
  | 10, h, _ => cases h; exact h7 10 _ (by decide)
  | 11, h, _ => cases h; exact h7 11 _ (by decide)
def ftyD (d : String) : FieldType := (parseFieldDescriptor d).getD .int
theorem cl_ty {ci : Nat} {q : vw_C} (h : CL[ci]? = some q) : ∀ k, k < q.2.2 → parseFieldDescriptor (q.2.1 k).2.2.1 = some (ftyD (q.2.1 k).2.2.1) := by
  refine cl_ind (P := fun _ q => ∀ k, k < q.2.2 → parseFieldDescriptor (q.2.1 k).2.2.1 = some (ftyD (q.2.1 k).2.2.1)) ?_ ?_ ?_ ?_ ?_ ?_ ?_ (fun _ _ _ k hk => absurd hk (Nat.not_lt_zero k)) h
  all_goals decide +kernel
theorem cl_nm {ci : Nat} {q : vw_C} (h : CL[ci]? = some q) : ∀ a, a < q.2.2 → ∀ b, b < q.2.2 → a ≠ b → (q.2.1 a).2.1 ≠ (q.2.1 b).2.1 := by
  refine cl_ind (P := fun _ q => ∀ a, a < q.2.2 → ∀ b, b < q.2.2 → a ≠ b → (q.2.1 a).2.1 ≠ (q.2.1 b).2.1) ?_ ?_ ?_ ?_ ?_ ?_ ?_ (fun _ _ _ k hk => absurd hk (Nat.not_lt_zero k)) h
  all_goals decide +kernel
theorem cl_own {ci : Nat} {q : vw_C} (h : CL[ci]? = some q) : ∀ k, k < q.2.2 → (q.2.1 k).1 = q.1 := by
  refine cl_ind (P := fun _ q => ∀ k, k < q.2.2 → (q.2.1 k).1 = q.1) ?_ ?_ ?_ ?_ ?_ ?_ ?_ (fun _ _ _ k hk => absurd hk (Nat.not_lt_zero k)) h
  all_goals decide +kernel
theorem cl_len {ci : Nat} {q : vw_C} (h : CL[ci]? = some q) : (shp ci).length = q.2.2 := by
  refine cl_ind (P := fun ci q => (shp ci).length = q.2.2) rfl rfl rfl rfl rfl rfl rfl (fun ci C h7 => ?_) h
  match ci, h7 with
  | n + 7, _ => rfl
/-- the memory's picture -/
def Hd (G : Gl) (μ : Mem) (H : Heap) : Prop := LayG G μ ∧ H.size = gb G + mN μ ∧ ∀ r, r < mN μ → va_at (gD G) CL (gb G + r, rend G μ r) H
def Hq (G : Gl) (μ : Mem) (H : Heap) : Prop := H.size = gb G + mN μ ∧ ∀ r, r < mN μ → va_at (gD G) CL (gb G + r, rend G μ r) H
/-- a static field of a class that holds a reference or null, in a cell outside A -/
def Zs (C n d : String) (A : Nat → Prop) (U : State) (H : Heap) : Prop := ∃ (c : ClassId) (k : Class) (i : Nat) (f : Field) (a : Nat) (cell : Cell) (v : Value), U.vm.findClass C = some c ∧ U.fieldFound? C n d = some (c, k, i, f) ∧ f.isStatic = true ∧ k.statics = some a ∧ H[a]? = some cell ∧ cell.vm.isStatics = true ∧ cell.cls = c ∧ f.slot < cell.slots.size ∧ k.staticTypes[f.slot]? = some f.type ∧ cell.slots[f.slot]? = some v ∧ v.isRef = true ∧ ¬ A a
theorem Zs.moved {C n d : String} {A : Nat → Prop} {u U : State} {H : Heap} (hvm : u.vm.Alike U.vm) (h : Zs C n d A u H) : Zs C n d A U H := by
  obtain ⟨c, k, i, f, a, cell, v, h0, h1, h2, h3, h4, h5, h6, h7, h8, h9⟩ := h
  obtain ⟨k', hi', he⟩ := State.fieldFound?_setVm hvm h1
  exact ⟨c, k', i, f, a, cell, v, by rw [hvm.findClass]; exact h0, hi', h2, by rw [he]; exact h3, h4, h5, h6, h7, by rw [he]; exact h8, h9⟩
theorem Zs.kept {C n d : String} {A : Nat → Prop} {U : State} {H H1 : Heap} (h : Zs C n d A U H) (hq : ∀ a : Nat, a < H.size → ¬ A a → H1[a]? = H[a]?) : Zs C n d A U H1 := by
  obtain ⟨c, k, i, f, a, cell, v, h0, h1, h2, h3, h4, h5, h6, h7, h8, h9, h10, h11⟩ := h
  exact ⟨c, k, i, f, a, cell, v, h0, h1, h2, h3, by rw [hq a (Array.getElem?_eq_some_iff.mp h4).1 h11]; exact h4, h5, h6, h7, h8, h9, h10, h11⟩
theorem Zs.lays {C n d : String} {A : Nat → Prop} {U : State} {args : Array Value} (h : Zs C n d A U U.heap) : (Cond.laysStatic C n d).before args U = true := by
  obtain ⟨c, k, i, f, a, cell, v, h0, h1, h2, h3, h4, h5, h6, h7, h8, h9, h10, h11⟩ := h
  simp [Cond.before, Cond.holds, Cond.value, h0, h1, h2, h3, h4, h5, h6, h7, h8]
theorem Zs.isRef {C n d : String} {A : Nat → Prop} {U : State} {args : Array Value} (h : Zs C n d A U U.heap) : (Cond.isRef (.static C n d)).before args U = true := by
  obtain ⟨c, k, i, f, a, cell, v, h0, h1, h2, h3, h4, h5, h6, h7, h8, h9, h10, h11⟩ := h
  cases v <;> simp [Value.isRef] at h10 <;> simp [Cond.before, Cond.holds, Cond.value, Term.eval, State.fieldNamed?, h1, h2, h3, h4, h5, h9]
/-- classes of which one can't be assigned to the other: pairs that a catch passes by -/
def ncPairs : List (String × String) := [("java/lang/UnsupportedOperationException", "java/lang/IllegalArgumentException"), ("java/lang/IllegalStateException", "java/lang/IllegalArgumentException"), ("java/lang/IndexOutOfBoundsException", "java/lang/IllegalArgumentException"),
  ("java/lang/IndexOutOfBoundsException", "java/lang/IllegalStateException"), ("java/lang/IndexOutOfBoundsException", "java/util/NoSuchElementException"), ("java/util/NoSuchElementException", "java/lang/IllegalArgumentException")]
/-- what else a run needs: the script; the two statics that an exception's constructor reads; the class of arrays of Items -/
def Xtra (G : Gl) (U : State) (H : Heap) : Prop := va_X (ga G) (gL G) (gx G) U H ∧ ga G < gb G ∧ Zs "java/lang/Throwable" "UNASSIGNED_STACK" "[Ljava/lang/StackTraceElement;" (gF G) U H ∧ Zs "java/lang/Throwable" "SUPPRESSED_SENTINEL" "Ljava/util/List;" (gF G) U H ∧ va_AO "LineCollector$Item" U ∧ ∀ q ∈ ncPairs, va_Nc q.1 q.2 U
def Wd (G : Gl) (μ : Mem) (U : State) : Prop := Hd G μ U.heap ∧ va_K (gD G) CL (gT G) U ∧ Xtra G U U.heap
theorem Hd.P {G : Gl} {μ : Mem} {H : Heap} {r : Nat} {e : va_E} (h : Hd G μ H) (hr : r < mN μ) (he : rend G μ r = e) : va_P (gD G) CL [(gb G + r, e)] H := by
  intro k q hk
  cases k with
  | zero =>
    cases hk
    rw [← he]
    exact h.2.2 r hr
  | succ k => cases hk
theorem Hd.put {G : Gl} {μ μ' : Mem} {H H1 : Heap} {r : Nat} (h : Hd G μ H) (hL : LayG G μ') (hN : mN μ' = mN μ) (hz : H1.size = H.size) (oq : ∀ q, q ≠ gb G + r → H1[q]? = H[q]?)
    (hr : ∀ x, x ≠ r → rend G μ' x = rend G μ x) (ha : va_at (gD G) CL (gb G + r, rend G μ' r) H1) : Hd G μ' H1 := by
  refine ⟨hL, by rw [hz, hN]; exact h.2.1, fun x hx => ?_⟩
  rw [hN] at hx
  by_cases e : x = r
  · subst e
    exact ha
  · rw [hr x e]
    exact (h.2.2 x hx).kept (oq _ (by omega))
theorem ok_s {μ μ1 : Mem} {r j x k : Nat} {v : Int32} (e : μ1 = sI μ r j v) (h : okO μ x k) : okO μ1 x k := by subst e; exact h
theorem ok_t {μ μ1 : Mem} {r j x k : Nat} {v : Option Nat} (e : μ1 = sR μ r j v) (h : okO μ x k) : okO μ1 x k := by subst e; exact h
