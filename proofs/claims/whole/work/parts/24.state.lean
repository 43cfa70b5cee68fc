/-! The abstract state: objects by number (written by a program) -/
abbrev St : Type := (Nat → Nat → Nat → Nat) × (Nat → Nat → Nat → Option Nat) × (Nat → Nat → Nat → Int32) × List Nat × List (Nat × Nat × Option Nat)
def cel (s : St) : Nat → Option Nat := fun x => s.2.1 0 x 0
def sta (s : St) : Nat → Nat := fun x => s.1 0 x 0
def ad (s : St) : Nat → Nat := fun x => s.1 1 x 0
def sz (s : St) : Nat → Nat := fun x => s.1 2 x 0
def tg (s : St) : Nat → Int32 := fun x => s.2.2.1 0 x 0
def ct (s : St) : Nat → Nat := fun x => s.1 3 x 0
def co (s : St) : Nat → Nat := fun x => s.1 4 x 0
def fl (s : St) : Nat → Nat → Option Nat := fun x i => s.2.1 3 x i
def lg (s : St) : Nat → Nat → Nat := fun x i => s.1 6 x i
def nx (s : St) : Nat := s.1 7 0 0
def rt (s : St) : Nat → Option Nat := fun x => s.2.1 1 x 0
def bf (s : St) : Nat → Option Nat := fun x => s.2.1 2 x 0
def hf (s : St) : Int32 := s.2.2.1 1 0 0
def he (s : St) : Int32 := s.2.2.1 2 0 0
def hc (s : St) : Int32 := s.2.2.1 3 0 0
def ov (s : St) : Int32 := s.2.2.1 4 0 0
def oc (s : St) : Int32 := s.2.2.1 5 0 0
def cl (s : St) : Int32 := s.2.2.1 6 0 0
def lf (s : St) : Nat → Nat := fun x => s.1 5 x 0
def row (s : St) : List Nat := s.2.2.2.1
def log (s : St) : List (Nat × Nat × Option Nat) := s.2.2.2.2
def tr (s : St) : Nat := s.1 8 0 0
def ps (s : St) : Int32 := s.2.2.1 7 0 0
def mv (s : St) : Int32 := s.2.2.1 8 0 0
def wh (s : St) : Int32 := s.2.2.1 9 0 0
def ucel (s : St) (v : Nat → Option Nat) : St := (s.1, (fun k x i => if k = 0 then v x else s.2.1 k x i), s.2.2.1, s.2.2.2.1, s.2.2.2.2)
def usta (s : St) (v : Nat → Nat) : St := ((fun k x i => if k = 0 then v x else s.1 k x i), s.2.1, s.2.2.1, s.2.2.2.1, s.2.2.2.2)
def uad (s : St) (v : Nat → Nat) : St := ((fun k x i => if k = 1 then v x else s.1 k x i), s.2.1, s.2.2.1, s.2.2.2.1, s.2.2.2.2)
def usz (s : St) (v : Nat → Nat) : St := ((fun k x i => if k = 2 then v x else s.1 k x i), s.2.1, s.2.2.1, s.2.2.2.1, s.2.2.2.2)
def utg (s : St) (v : Nat → Int32) : St := (s.1, s.2.1, (fun k x i => if k = 0 then v x else s.2.2.1 k x i), s.2.2.2.1, s.2.2.2.2)
def uct (s : St) (v : Nat → Nat) : St := ((fun k x i => if k = 3 then v x else s.1 k x i), s.2.1, s.2.2.1, s.2.2.2.1, s.2.2.2.2)
def uco (s : St) (v : Nat → Nat) : St := ((fun k x i => if k = 4 then v x else s.1 k x i), s.2.1, s.2.2.1, s.2.2.2.1, s.2.2.2.2)
def ufl (s : St) (v : Nat → Nat → Option Nat) : St := (s.1, (fun k x i => if k = 3 then v x i else s.2.1 k x i), s.2.2.1, s.2.2.2.1, s.2.2.2.2)
def ulg (s : St) (v : Nat → Nat → Nat) : St := ((fun k x i => if k = 6 then v x i else s.1 k x i), s.2.1, s.2.2.1, s.2.2.2.1, s.2.2.2.2)
def unx (s : St) (v : Nat) : St := ((fun k x i => if k = 7 then v else s.1 k x i), s.2.1, s.2.2.1, s.2.2.2.1, s.2.2.2.2)
def urt (s : St) (v : Nat → Option Nat) : St := (s.1, (fun k x i => if k = 1 then v x else s.2.1 k x i), s.2.2.1, s.2.2.2.1, s.2.2.2.2)
def ubf (s : St) (v : Nat → Option Nat) : St := (s.1, (fun k x i => if k = 2 then v x else s.2.1 k x i), s.2.2.1, s.2.2.2.1, s.2.2.2.2)
def uhf (s : St) (v : Int32) : St := (s.1, s.2.1, (fun k x i => if k = 1 then v else s.2.2.1 k x i), s.2.2.2.1, s.2.2.2.2)
def uhe (s : St) (v : Int32) : St := (s.1, s.2.1, (fun k x i => if k = 2 then v else s.2.2.1 k x i), s.2.2.2.1, s.2.2.2.2)
def uhc (s : St) (v : Int32) : St := (s.1, s.2.1, (fun k x i => if k = 3 then v else s.2.2.1 k x i), s.2.2.2.1, s.2.2.2.2)
def uov (s : St) (v : Int32) : St := (s.1, s.2.1, (fun k x i => if k = 4 then v else s.2.2.1 k x i), s.2.2.2.1, s.2.2.2.2)
def uoc (s : St) (v : Int32) : St := (s.1, s.2.1, (fun k x i => if k = 5 then v else s.2.2.1 k x i), s.2.2.2.1, s.2.2.2.2)
def ucl (s : St) (v : Int32) : St := (s.1, s.2.1, (fun k x i => if k = 6 then v else s.2.2.1 k x i), s.2.2.2.1, s.2.2.2.2)
def ulf (s : St) (v : Nat → Nat) : St := ((fun k x i => if k = 5 then v x else s.1 k x i), s.2.1, s.2.2.1, s.2.2.2.1, s.2.2.2.2)
def urow (s : St) (v : List Nat) : St := (s.1, s.2.1, s.2.2.1, v, s.2.2.2.2)
def ulog (s : St) (v : List (Nat × Nat × Option Nat)) : St := (s.1, s.2.1, s.2.2.1, s.2.2.2.1, v)
def utr (s : St) (v : Nat) : St := ((fun k x i => if k = 8 then v else s.1 k x i), s.2.1, s.2.2.1, s.2.2.2.1, s.2.2.2.2)
def ups (s : St) (v : Int32) : St := (s.1, s.2.1, (fun k x i => if k = 7 then v else s.2.2.1 k x i), s.2.2.2.1, s.2.2.2.2)
def umv (s : St) (v : Int32) : St := (s.1, s.2.1, (fun k x i => if k = 8 then v else s.2.2.1 k x i), s.2.2.2.1, s.2.2.2.2)
def uwh (s : St) (v : Int32) : St := (s.1, s.2.1, (fun k x i => if k = 9 then v else s.2.2.1 k x i), s.2.2.2.1, s.2.2.2.2)
def eqS (s t : St) : Prop := cel t = cel s ∧ sta t = sta s ∧ ad t = ad s ∧ sz t = sz s ∧ tg t = tg s ∧ ct t = ct s ∧ co t = co s ∧ fl t = fl s ∧ lg t = lg s ∧ nx t = nx s ∧ rt t = rt s ∧ bf t = bf s ∧ hf t = hf s ∧ he t = he s ∧ hc t = hc s ∧ ov t = ov s ∧ oc t = oc s ∧ cl t = cl s ∧ lf t = lf s ∧ row t = row s ∧ log t = log s ∧ tr t = tr s ∧ ps t = ps s ∧ mv t = mv s ∧ wh t = wh s
def up {α : Type} (f : Nat → α) (x : Nat) (v : α) : Nat → α := fun y => if y = x then v else f y
def up2 {α : Type} (f : Nat → Nat → α) (x i : Nat) (v : α) : Nat → Nat → α := fun y k => if y = x ∧ k = i then v else f y k
theorem up_self {α : Type} (f : Nat → α) (x : Nat) (v : α) : up f x v x = v := if_pos rfl
theorem up_ne {α : Type} {f : Nat → α} {x y : Nat} {v : α} (h : y ≠ x) : up f x v y = f y := if_neg h
theorem up_eq {α : Type} (f : Nat → α) (x : Nat) (v : α) (y : Nat) : up f x v y = if y = x then v else f y := rfl
theorem up2_eq {α : Type} (f : Nat → Nat → α) (x i : Nat) (v : α) (y k : Nat) : up2 f x i v y k = if y = x ∧ k = i then v else f y k := rfl
def eo : Option Nat → Int32
  | none => -1
  | some x => nI x
/-- the reference's memory is this state -/
def MR (μ : Mem) (s : St) : Prop := (∀ j, j < 128 → mI μ 18 j = eo (cel s j)) ∧ (∀ x, x < 256 → mI μ 19 x = nI (sta s x)) ∧ (∀ x, x < 256 → mI μ 20 x = nI (ad s x)) ∧ (∀ x, x < 256 → mI μ 21 x = nI (sz s x)) ∧ (∀ x, x < 256 → mI μ 22 x = tg s x) ∧ (∀ x, x < 256 → mI μ 23 x = nI (ct s x)) ∧ (∀ x, x < 256 → mI μ 24 x = nI (co s x)) ∧ (∀ x i, x < 256 → i < 12 → mI μ 25 (12 * x + i) = eo (fl s x i)) ∧ (∀ x i, x < 256 → i < 12 → mI μ 26 (12 * x + i) = nI (lg s x i)) ∧ (mI μ 17 10 = nI (nx s)) ∧ (∀ r, r < 6 → mI μ 27 r = eo (rt s r)) ∧ (∀ r, r < 6 → mI μ 28 r = eo (bf s r)) ∧ (mI μ 17 13 = hf s) ∧ (mI μ 17 14 = he s) ∧ (mI μ 17 15 = hc s) ∧ (mI μ 17 16 = ov s) ∧ (mI μ 17 17 = oc s) ∧ (mI μ 17 19 = cl s) ∧ (∀ l, l < 32 → mI μ 29 l = nI (lf s l)) ∧ (mI μ 17 21 = nI (row s).length) ∧ (∀ k x, (row s)[k]? = some x → mI μ 30 k = nI x) ∧ (mI μ 17 24 = nI (log s).length) ∧ (∀ k x i o, (log s)[k]? = some (x, i, o) → mI μ 31 k = nI (12 * x + i) ∧ mI μ 32 k = eo o) ∧ (mI μ 17 27 = nI (tr s)) ∧ (mI μ 17 28 = ps s) ∧ (mI μ 17 29 = mv s) ∧ (mI μ 17 30 = wh s)
theorem MR.pcel {μ : Mem} {s : St} (h : MR μ s) : ∀ j, j < 128 → mI μ 18 j = eo (cel s j) := h.1
theorem MR.psta {μ : Mem} {s : St} (h : MR μ s) : ∀ x, x < 256 → mI μ 19 x = nI (sta s x) := h.2.1
theorem MR.pad {μ : Mem} {s : St} (h : MR μ s) : ∀ x, x < 256 → mI μ 20 x = nI (ad s x) := h.2.2.1
theorem MR.psz {μ : Mem} {s : St} (h : MR μ s) : ∀ x, x < 256 → mI μ 21 x = nI (sz s x) := h.2.2.2.1
theorem MR.ptg {μ : Mem} {s : St} (h : MR μ s) : ∀ x, x < 256 → mI μ 22 x = tg s x := h.2.2.2.2.1
theorem MR.pct {μ : Mem} {s : St} (h : MR μ s) : ∀ x, x < 256 → mI μ 23 x = nI (ct s x) := h.2.2.2.2.2.1
theorem MR.pco {μ : Mem} {s : St} (h : MR μ s) : ∀ x, x < 256 → mI μ 24 x = nI (co s x) := h.2.2.2.2.2.2.1
theorem MR.pfl {μ : Mem} {s : St} (h : MR μ s) : ∀ x i, x < 256 → i < 12 → mI μ 25 (12 * x + i) = eo (fl s x i) := h.2.2.2.2.2.2.2.1
theorem MR.plg {μ : Mem} {s : St} (h : MR μ s) : ∀ x i, x < 256 → i < 12 → mI μ 26 (12 * x + i) = nI (lg s x i) := h.2.2.2.2.2.2.2.2.1
theorem MR.pnx {μ : Mem} {s : St} (h : MR μ s) : mI μ 17 10 = nI (nx s) := h.2.2.2.2.2.2.2.2.2.1
theorem MR.prt {μ : Mem} {s : St} (h : MR μ s) : ∀ r, r < 6 → mI μ 27 r = eo (rt s r) := h.2.2.2.2.2.2.2.2.2.2.1
theorem MR.pbf {μ : Mem} {s : St} (h : MR μ s) : ∀ r, r < 6 → mI μ 28 r = eo (bf s r) := h.2.2.2.2.2.2.2.2.2.2.2.1
theorem MR.phf {μ : Mem} {s : St} (h : MR μ s) : mI μ 17 13 = hf s := h.2.2.2.2.2.2.2.2.2.2.2.2.1
theorem MR.phe {μ : Mem} {s : St} (h : MR μ s) : mI μ 17 14 = he s := h.2.2.2.2.2.2.2.2.2.2.2.2.2.1
theorem MR.phc {μ : Mem} {s : St} (h : MR μ s) : mI μ 17 15 = hc s := h.2.2.2.2.2.2.2.2.2.2.2.2.2.2.1
theorem MR.pov {μ : Mem} {s : St} (h : MR μ s) : mI μ 17 16 = ov s := h.2.2.2.2.2.2.2.2.2.2.2.2.2.2.2.1
theorem MR.poc {μ : Mem} {s : St} (h : MR μ s) : mI μ 17 17 = oc s := h.2.2.2.2.2.2.2.2.2.2.2.2.2.2.2.2.1
theorem MR.pcl {μ : Mem} {s : St} (h : MR μ s) : mI μ 17 19 = cl s := h.2.2.2.2.2.2.2.2.2.2.2.2.2.2.2.2.2.1
theorem MR.plf {μ : Mem} {s : St} (h : MR μ s) : ∀ l, l < 32 → mI μ 29 l = nI (lf s l) := h.2.2.2.2.2.2.2.2.2.2.2.2.2.2.2.2.2.2.1
theorem MR.prowN {μ : Mem} {s : St} (h : MR μ s) : mI μ 17 21 = nI (row s).length := h.2.2.2.2.2.2.2.2.2.2.2.2.2.2.2.2.2.2.2.1
theorem MR.prow {μ : Mem} {s : St} (h : MR μ s) : ∀ k x, (row s)[k]? = some x → mI μ 30 k = nI x := h.2.2.2.2.2.2.2.2.2.2.2.2.2.2.2.2.2.2.2.2.1
theorem MR.plogN {μ : Mem} {s : St} (h : MR μ s) : mI μ 17 24 = nI (log s).length := h.2.2.2.2.2.2.2.2.2.2.2.2.2.2.2.2.2.2.2.2.2.1
theorem MR.plog {μ : Mem} {s : St} (h : MR μ s) : ∀ k x i o, (log s)[k]? = some (x, i, o) → mI μ 31 k = nI (12 * x + i) ∧ mI μ 32 k = eo o := h.2.2.2.2.2.2.2.2.2.2.2.2.2.2.2.2.2.2.2.2.2.2.1
theorem MR.ptr {μ : Mem} {s : St} (h : MR μ s) : mI μ 17 27 = nI (tr s) := h.2.2.2.2.2.2.2.2.2.2.2.2.2.2.2.2.2.2.2.2.2.2.2.1
theorem MR.pps {μ : Mem} {s : St} (h : MR μ s) : mI μ 17 28 = ps s := h.2.2.2.2.2.2.2.2.2.2.2.2.2.2.2.2.2.2.2.2.2.2.2.2.1
theorem MR.pmv {μ : Mem} {s : St} (h : MR μ s) : mI μ 17 29 = mv s := h.2.2.2.2.2.2.2.2.2.2.2.2.2.2.2.2.2.2.2.2.2.2.2.2.2.1
theorem MR.pwh {μ : Mem} {s : St} (h : MR μ s) : mI μ 17 30 = wh s := h.2.2.2.2.2.2.2.2.2.2.2.2.2.2.2.2.2.2.2.2.2.2.2.2.2.2
theorem mI_no {μ : Mem} {r j x y : Nat} {v : Int32} (h : ¬ (x = r ∧ y = j)) : mI (sI μ r j v) x y = mI μ x y := by rw [mI_sI, if_neg h]
theorem MR.w_cel {μ : Mem} {s : St} (h : MR μ s) {x : Nat} {v : Option Nat} : MR (sI μ 18 x (eo v)) (ucel s (up (cel s) x v)) :=
  ⟨fun y hy => by
      show mI (sI μ 18 x (eo v)) 18 y = _
      rw [mI_sI]
      by_cases e : y = x
      · subst e
        rw [if_pos ⟨rfl, rfl⟩]
        exact congrArg _ (up_self _ _ _).symm
      · rw [if_neg (fun z => e z.2)]
        exact (h.pcel y hy).trans (congrArg _ (up_ne e).symm),
    fun x hx => (congrFun (mI_ne (by decide)) _).trans (h.psta x hx),
    fun x hx => (congrFun (mI_ne (by decide)) _).trans (h.pad x hx),
    fun x hx => (congrFun (mI_ne (by decide)) _).trans (h.psz x hx),
    fun x hx => (congrFun (mI_ne (by decide)) _).trans (h.ptg x hx),
    fun x hx => (congrFun (mI_ne (by decide)) _).trans (h.pct x hx),
    fun x hx => (congrFun (mI_ne (by decide)) _).trans (h.pco x hx),
    fun x i hx hi => (congrFun (mI_ne (by decide)) _).trans (h.pfl x i hx hi),
    fun x i hx hi => (congrFun (mI_ne (by decide)) _).trans (h.plg x i hx hi),
    (congrFun (mI_ne (by decide)) _).trans h.pnx,
    fun x hx => (congrFun (mI_ne (by decide)) _).trans (h.prt x hx),
    fun x hx => (congrFun (mI_ne (by decide)) _).trans (h.pbf x hx),
    (congrFun (mI_ne (by decide)) _).trans h.phf,
    (congrFun (mI_ne (by decide)) _).trans h.phe,
    (congrFun (mI_ne (by decide)) _).trans h.phc,
    (congrFun (mI_ne (by decide)) _).trans h.pov,
    (congrFun (mI_ne (by decide)) _).trans h.poc,
    (congrFun (mI_ne (by decide)) _).trans h.pcl,
    fun x hx => (congrFun (mI_ne (by decide)) _).trans (h.plf x hx),
    (congrFun (mI_ne (by decide)) _).trans h.prowN,
    fun k x hk => (congrFun (mI_ne (by decide)) _).trans (h.prow k x hk),
    (congrFun (mI_ne (by decide)) _).trans h.plogN,
    fun k x i o hk => ⟨(congrFun (mI_ne (by decide)) _).trans (h.plog k x i o hk).1, (congrFun (mI_ne (by decide)) _).trans (h.plog k x i o hk).2⟩,
    (congrFun (mI_ne (by decide)) _).trans h.ptr,
    (congrFun (mI_ne (by decide)) _).trans h.pps,
    (congrFun (mI_ne (by decide)) _).trans h.pmv,
    (congrFun (mI_ne (by decide)) _).trans h.pwh⟩
theorem MR.w_sta {μ : Mem} {s : St} (h : MR μ s) {x : Nat} {v : Nat} : MR (sI μ 19 x (nI v)) (usta s (up (sta s) x v)) :=
  ⟨fun x hx => (congrFun (mI_ne (by decide)) _).trans (h.pcel x hx),
    fun y hy => by
      show mI (sI μ 19 x (nI v)) 19 y = _
      rw [mI_sI]
      by_cases e : y = x
      · subst e
        rw [if_pos ⟨rfl, rfl⟩]
        exact congrArg _ (up_self _ _ _).symm
      · rw [if_neg (fun z => e z.2)]
        exact (h.psta y hy).trans (congrArg _ (up_ne e).symm),
    fun x hx => (congrFun (mI_ne (by decide)) _).trans (h.pad x hx),
    fun x hx => (congrFun (mI_ne (by decide)) _).trans (h.psz x hx),
    fun x hx => (congrFun (mI_ne (by decide)) _).trans (h.ptg x hx),
    fun x hx => (congrFun (mI_ne (by decide)) _).trans (h.pct x hx),
    fun x hx => (congrFun (mI_ne (by decide)) _).trans (h.pco x hx),
    fun x i hx hi => (congrFun (mI_ne (by decide)) _).trans (h.pfl x i hx hi),
    fun x i hx hi => (congrFun (mI_ne (by decide)) _).trans (h.plg x i hx hi),
    (congrFun (mI_ne (by decide)) _).trans h.pnx,
    fun x hx => (congrFun (mI_ne (by decide)) _).trans (h.prt x hx),
    fun x hx => (congrFun (mI_ne (by decide)) _).trans (h.pbf x hx),
    (congrFun (mI_ne (by decide)) _).trans h.phf,
    (congrFun (mI_ne (by decide)) _).trans h.phe,
    (congrFun (mI_ne (by decide)) _).trans h.phc,
    (congrFun (mI_ne (by decide)) _).trans h.pov,
    (congrFun (mI_ne (by decide)) _).trans h.poc,
    (congrFun (mI_ne (by decide)) _).trans h.pcl,
    fun x hx => (congrFun (mI_ne (by decide)) _).trans (h.plf x hx),
    (congrFun (mI_ne (by decide)) _).trans h.prowN,
    fun k x hk => (congrFun (mI_ne (by decide)) _).trans (h.prow k x hk),
    (congrFun (mI_ne (by decide)) _).trans h.plogN,
    fun k x i o hk => ⟨(congrFun (mI_ne (by decide)) _).trans (h.plog k x i o hk).1, (congrFun (mI_ne (by decide)) _).trans (h.plog k x i o hk).2⟩,
    (congrFun (mI_ne (by decide)) _).trans h.ptr,
    (congrFun (mI_ne (by decide)) _).trans h.pps,
    (congrFun (mI_ne (by decide)) _).trans h.pmv,
    (congrFun (mI_ne (by decide)) _).trans h.pwh⟩
theorem MR.w_ad {μ : Mem} {s : St} (h : MR μ s) {x : Nat} {v : Nat} : MR (sI μ 20 x (nI v)) (uad s (up (ad s) x v)) :=
  ⟨fun x hx => (congrFun (mI_ne (by decide)) _).trans (h.pcel x hx),
    fun x hx => (congrFun (mI_ne (by decide)) _).trans (h.psta x hx),
    fun y hy => by
      show mI (sI μ 20 x (nI v)) 20 y = _
      rw [mI_sI]
      by_cases e : y = x
      · subst e
        rw [if_pos ⟨rfl, rfl⟩]
        exact congrArg _ (up_self _ _ _).symm
      · rw [if_neg (fun z => e z.2)]
        exact (h.pad y hy).trans (congrArg _ (up_ne e).symm),
    fun x hx => (congrFun (mI_ne (by decide)) _).trans (h.psz x hx),
    fun x hx => (congrFun (mI_ne (by decide)) _).trans (h.ptg x hx),
    fun x hx => (congrFun (mI_ne (by decide)) _).trans (h.pct x hx),
    fun x hx => (congrFun (mI_ne (by decide)) _).trans (h.pco x hx),
    fun x i hx hi => (congrFun (mI_ne (by decide)) _).trans (h.pfl x i hx hi),
    fun x i hx hi => (congrFun (mI_ne (by decide)) _).trans (h.plg x i hx hi),
    (congrFun (mI_ne (by decide)) _).trans h.pnx,
    fun x hx => (congrFun (mI_ne (by decide)) _).trans (h.prt x hx),
    fun x hx => (congrFun (mI_ne (by decide)) _).trans (h.pbf x hx),
    (congrFun (mI_ne (by decide)) _).trans h.phf,
    (congrFun (mI_ne (by decide)) _).trans h.phe,
    (congrFun (mI_ne (by decide)) _).trans h.phc,
    (congrFun (mI_ne (by decide)) _).trans h.pov,
    (congrFun (mI_ne (by decide)) _).trans h.poc,
    (congrFun (mI_ne (by decide)) _).trans h.pcl,
    fun x hx => (congrFun (mI_ne (by decide)) _).trans (h.plf x hx),
    (congrFun (mI_ne (by decide)) _).trans h.prowN,
    fun k x hk => (congrFun (mI_ne (by decide)) _).trans (h.prow k x hk),
    (congrFun (mI_ne (by decide)) _).trans h.plogN,
    fun k x i o hk => ⟨(congrFun (mI_ne (by decide)) _).trans (h.plog k x i o hk).1, (congrFun (mI_ne (by decide)) _).trans (h.plog k x i o hk).2⟩,
    (congrFun (mI_ne (by decide)) _).trans h.ptr,
    (congrFun (mI_ne (by decide)) _).trans h.pps,
    (congrFun (mI_ne (by decide)) _).trans h.pmv,
    (congrFun (mI_ne (by decide)) _).trans h.pwh⟩
theorem MR.w_sz {μ : Mem} {s : St} (h : MR μ s) {x : Nat} {v : Nat} : MR (sI μ 21 x (nI v)) (usz s (up (sz s) x v)) :=
  ⟨fun x hx => (congrFun (mI_ne (by decide)) _).trans (h.pcel x hx),
    fun x hx => (congrFun (mI_ne (by decide)) _).trans (h.psta x hx),
    fun x hx => (congrFun (mI_ne (by decide)) _).trans (h.pad x hx),
    fun y hy => by
      show mI (sI μ 21 x (nI v)) 21 y = _
      rw [mI_sI]
      by_cases e : y = x
      · subst e
        rw [if_pos ⟨rfl, rfl⟩]
        exact congrArg _ (up_self _ _ _).symm
      · rw [if_neg (fun z => e z.2)]
        exact (h.psz y hy).trans (congrArg _ (up_ne e).symm),
    fun x hx => (congrFun (mI_ne (by decide)) _).trans (h.ptg x hx),
    fun x hx => (congrFun (mI_ne (by decide)) _).trans (h.pct x hx),
    fun x hx => (congrFun (mI_ne (by decide)) _).trans (h.pco x hx),
    fun x i hx hi => (congrFun (mI_ne (by decide)) _).trans (h.pfl x i hx hi),
    fun x i hx hi => (congrFun (mI_ne (by decide)) _).trans (h.plg x i hx hi),
    (congrFun (mI_ne (by decide)) _).trans h.pnx,
    fun x hx => (congrFun (mI_ne (by decide)) _).trans (h.prt x hx),
    fun x hx => (congrFun (mI_ne (by decide)) _).trans (h.pbf x hx),
    (congrFun (mI_ne (by decide)) _).trans h.phf,
    (congrFun (mI_ne (by decide)) _).trans h.phe,
    (congrFun (mI_ne (by decide)) _).trans h.phc,
    (congrFun (mI_ne (by decide)) _).trans h.pov,
    (congrFun (mI_ne (by decide)) _).trans h.poc,
    (congrFun (mI_ne (by decide)) _).trans h.pcl,
    fun x hx => (congrFun (mI_ne (by decide)) _).trans (h.plf x hx),
    (congrFun (mI_ne (by decide)) _).trans h.prowN,
    fun k x hk => (congrFun (mI_ne (by decide)) _).trans (h.prow k x hk),
    (congrFun (mI_ne (by decide)) _).trans h.plogN,
    fun k x i o hk => ⟨(congrFun (mI_ne (by decide)) _).trans (h.plog k x i o hk).1, (congrFun (mI_ne (by decide)) _).trans (h.plog k x i o hk).2⟩,
    (congrFun (mI_ne (by decide)) _).trans h.ptr,
    (congrFun (mI_ne (by decide)) _).trans h.pps,
    (congrFun (mI_ne (by decide)) _).trans h.pmv,
    (congrFun (mI_ne (by decide)) _).trans h.pwh⟩
theorem MR.w_tg {μ : Mem} {s : St} (h : MR μ s) {x : Nat} {v : Int32} : MR (sI μ 22 x (v)) (utg s (up (tg s) x v)) :=
  ⟨fun x hx => (congrFun (mI_ne (by decide)) _).trans (h.pcel x hx),
    fun x hx => (congrFun (mI_ne (by decide)) _).trans (h.psta x hx),
    fun x hx => (congrFun (mI_ne (by decide)) _).trans (h.pad x hx),
    fun x hx => (congrFun (mI_ne (by decide)) _).trans (h.psz x hx),
    fun y hy => by
      show mI (sI μ 22 x (v)) 22 y = _
      rw [mI_sI]
      by_cases e : y = x
      · subst e
        rw [if_pos ⟨rfl, rfl⟩]
        exact (up_self _ _ _).symm
      · rw [if_neg (fun z => e z.2)]
        exact (h.ptg y hy).trans (up_ne e).symm,
    fun x hx => (congrFun (mI_ne (by decide)) _).trans (h.pct x hx),
    fun x hx => (congrFun (mI_ne (by decide)) _).trans (h.pco x hx),
    fun x i hx hi => (congrFun (mI_ne (by decide)) _).trans (h.pfl x i hx hi),
    fun x i hx hi => (congrFun (mI_ne (by decide)) _).trans (h.plg x i hx hi),
    (congrFun (mI_ne (by decide)) _).trans h.pnx,
    fun x hx => (congrFun (mI_ne (by decide)) _).trans (h.prt x hx),
    fun x hx => (congrFun (mI_ne (by decide)) _).trans (h.pbf x hx),
    (congrFun (mI_ne (by decide)) _).trans h.phf,
    (congrFun (mI_ne (by decide)) _).trans h.phe,
    (congrFun (mI_ne (by decide)) _).trans h.phc,
    (congrFun (mI_ne (by decide)) _).trans h.pov,
    (congrFun (mI_ne (by decide)) _).trans h.poc,
    (congrFun (mI_ne (by decide)) _).trans h.pcl,
    fun x hx => (congrFun (mI_ne (by decide)) _).trans (h.plf x hx),
    (congrFun (mI_ne (by decide)) _).trans h.prowN,
    fun k x hk => (congrFun (mI_ne (by decide)) _).trans (h.prow k x hk),
    (congrFun (mI_ne (by decide)) _).trans h.plogN,
    fun k x i o hk => ⟨(congrFun (mI_ne (by decide)) _).trans (h.plog k x i o hk).1, (congrFun (mI_ne (by decide)) _).trans (h.plog k x i o hk).2⟩,
    (congrFun (mI_ne (by decide)) _).trans h.ptr,
    (congrFun (mI_ne (by decide)) _).trans h.pps,
    (congrFun (mI_ne (by decide)) _).trans h.pmv,
    (congrFun (mI_ne (by decide)) _).trans h.pwh⟩
theorem MR.w_ct {μ : Mem} {s : St} (h : MR μ s) {x : Nat} {v : Nat} : MR (sI μ 23 x (nI v)) (uct s (up (ct s) x v)) :=
  ⟨fun x hx => (congrFun (mI_ne (by decide)) _).trans (h.pcel x hx),
    fun x hx => (congrFun (mI_ne (by decide)) _).trans (h.psta x hx),
    fun x hx => (congrFun (mI_ne (by decide)) _).trans (h.pad x hx),
    fun x hx => (congrFun (mI_ne (by decide)) _).trans (h.psz x hx),
    fun x hx => (congrFun (mI_ne (by decide)) _).trans (h.ptg x hx),
    fun y hy => by
      show mI (sI μ 23 x (nI v)) 23 y = _
      rw [mI_sI]
      by_cases e : y = x
      · subst e
        rw [if_pos ⟨rfl, rfl⟩]
        exact congrArg _ (up_self _ _ _).symm
      · rw [if_neg (fun z => e z.2)]
        exact (h.pct y hy).trans (congrArg _ (up_ne e).symm),
    fun x hx => (congrFun (mI_ne (by decide)) _).trans (h.pco x hx),
    fun x i hx hi => (congrFun (mI_ne (by decide)) _).trans (h.pfl x i hx hi),
    fun x i hx hi => (congrFun (mI_ne (by decide)) _).trans (h.plg x i hx hi),
    (congrFun (mI_ne (by decide)) _).trans h.pnx,
    fun x hx => (congrFun (mI_ne (by decide)) _).trans (h.prt x hx),
    fun x hx => (congrFun (mI_ne (by decide)) _).trans (h.pbf x hx),
    (congrFun (mI_ne (by decide)) _).trans h.phf,
    (congrFun (mI_ne (by decide)) _).trans h.phe,
    (congrFun (mI_ne (by decide)) _).trans h.phc,
    (congrFun (mI_ne (by decide)) _).trans h.pov,
    (congrFun (mI_ne (by decide)) _).trans h.poc,
    (congrFun (mI_ne (by decide)) _).trans h.pcl,
    fun x hx => (congrFun (mI_ne (by decide)) _).trans (h.plf x hx),
    (congrFun (mI_ne (by decide)) _).trans h.prowN,
    fun k x hk => (congrFun (mI_ne (by decide)) _).trans (h.prow k x hk),
    (congrFun (mI_ne (by decide)) _).trans h.plogN,
    fun k x i o hk => ⟨(congrFun (mI_ne (by decide)) _).trans (h.plog k x i o hk).1, (congrFun (mI_ne (by decide)) _).trans (h.plog k x i o hk).2⟩,
    (congrFun (mI_ne (by decide)) _).trans h.ptr,
    (congrFun (mI_ne (by decide)) _).trans h.pps,
    (congrFun (mI_ne (by decide)) _).trans h.pmv,
    (congrFun (mI_ne (by decide)) _).trans h.pwh⟩
theorem MR.w_co {μ : Mem} {s : St} (h : MR μ s) {x : Nat} {v : Nat} : MR (sI μ 24 x (nI v)) (uco s (up (co s) x v)) :=
  ⟨fun x hx => (congrFun (mI_ne (by decide)) _).trans (h.pcel x hx),
    fun x hx => (congrFun (mI_ne (by decide)) _).trans (h.psta x hx),
    fun x hx => (congrFun (mI_ne (by decide)) _).trans (h.pad x hx),
    fun x hx => (congrFun (mI_ne (by decide)) _).trans (h.psz x hx),
    fun x hx => (congrFun (mI_ne (by decide)) _).trans (h.ptg x hx),
    fun x hx => (congrFun (mI_ne (by decide)) _).trans (h.pct x hx),
    fun y hy => by
      show mI (sI μ 24 x (nI v)) 24 y = _
      rw [mI_sI]
      by_cases e : y = x
      · subst e
        rw [if_pos ⟨rfl, rfl⟩]
        exact congrArg _ (up_self _ _ _).symm
      · rw [if_neg (fun z => e z.2)]
        exact (h.pco y hy).trans (congrArg _ (up_ne e).symm),
    fun x i hx hi => (congrFun (mI_ne (by decide)) _).trans (h.pfl x i hx hi),
    fun x i hx hi => (congrFun (mI_ne (by decide)) _).trans (h.plg x i hx hi),
    (congrFun (mI_ne (by decide)) _).trans h.pnx,
    fun x hx => (congrFun (mI_ne (by decide)) _).trans (h.prt x hx),
    fun x hx => (congrFun (mI_ne (by decide)) _).trans (h.pbf x hx),
    (congrFun (mI_ne (by decide)) _).trans h.phf,
    (congrFun (mI_ne (by decide)) _).trans h.phe,
    (congrFun (mI_ne (by decide)) _).trans h.phc,
    (congrFun (mI_ne (by decide)) _).trans h.pov,
    (congrFun (mI_ne (by decide)) _).trans h.poc,
    (congrFun (mI_ne (by decide)) _).trans h.pcl,
    fun x hx => (congrFun (mI_ne (by decide)) _).trans (h.plf x hx),
    (congrFun (mI_ne (by decide)) _).trans h.prowN,
    fun k x hk => (congrFun (mI_ne (by decide)) _).trans (h.prow k x hk),
    (congrFun (mI_ne (by decide)) _).trans h.plogN,
    fun k x i o hk => ⟨(congrFun (mI_ne (by decide)) _).trans (h.plog k x i o hk).1, (congrFun (mI_ne (by decide)) _).trans (h.plog k x i o hk).2⟩,
    (congrFun (mI_ne (by decide)) _).trans h.ptr,
    (congrFun (mI_ne (by decide)) _).trans h.pps,
    (congrFun (mI_ne (by decide)) _).trans h.pmv,
    (congrFun (mI_ne (by decide)) _).trans h.pwh⟩
theorem MR.w_fl {μ : Mem} {s : St} (h : MR μ s) {x i : Nat} {v : Option Nat} (hi : i < 12) : MR (sI μ 25 (12 * x + i) (eo v)) (ufl s (up2 (fl s) x i v)) :=
  ⟨fun x hx => (congrFun (mI_ne (by decide)) _).trans (h.pcel x hx),
    fun x hx => (congrFun (mI_ne (by decide)) _).trans (h.psta x hx),
    fun x hx => (congrFun (mI_ne (by decide)) _).trans (h.pad x hx),
    fun x hx => (congrFun (mI_ne (by decide)) _).trans (h.psz x hx),
    fun x hx => (congrFun (mI_ne (by decide)) _).trans (h.ptg x hx),
    fun x hx => (congrFun (mI_ne (by decide)) _).trans (h.pct x hx),
    fun x hx => (congrFun (mI_ne (by decide)) _).trans (h.pco x hx),
    fun y k hy hk => by
      show mI (sI μ 25 (12 * x + i) (eo v)) 25 (12 * y + k) = _
      rw [mI_sI]
      by_cases e : y = x ∧ k = i
      · obtain ⟨rfl, rfl⟩ := e
        rw [if_pos ⟨rfl, rfl⟩]
        exact congrArg _ (if_pos ⟨rfl, rfl⟩ : up2 (fl s) y k v y k = v).symm
      · rw [if_neg (fun z => e (by have := z.2; omega))]
        exact (h.pfl y k hy hk).trans (congrArg _ (if_neg e : up2 (fl s) x i v y k = fl s y k).symm),
    fun x i hx hi => (congrFun (mI_ne (by decide)) _).trans (h.plg x i hx hi),
    (congrFun (mI_ne (by decide)) _).trans h.pnx,
    fun x hx => (congrFun (mI_ne (by decide)) _).trans (h.prt x hx),
    fun x hx => (congrFun (mI_ne (by decide)) _).trans (h.pbf x hx),
    (congrFun (mI_ne (by decide)) _).trans h.phf,
    (congrFun (mI_ne (by decide)) _).trans h.phe,
    (congrFun (mI_ne (by decide)) _).trans h.phc,
    (congrFun (mI_ne (by decide)) _).trans h.pov,
    (congrFun (mI_ne (by decide)) _).trans h.poc,
    (congrFun (mI_ne (by decide)) _).trans h.pcl,
    fun x hx => (congrFun (mI_ne (by decide)) _).trans (h.plf x hx),
    (congrFun (mI_ne (by decide)) _).trans h.prowN,
    fun k x hk => (congrFun (mI_ne (by decide)) _).trans (h.prow k x hk),
    (congrFun (mI_ne (by decide)) _).trans h.plogN,
    fun k x i o hk => ⟨(congrFun (mI_ne (by decide)) _).trans (h.plog k x i o hk).1, (congrFun (mI_ne (by decide)) _).trans (h.plog k x i o hk).2⟩,
    (congrFun (mI_ne (by decide)) _).trans h.ptr,
    (congrFun (mI_ne (by decide)) _).trans h.pps,
    (congrFun (mI_ne (by decide)) _).trans h.pmv,
    (congrFun (mI_ne (by decide)) _).trans h.pwh⟩
theorem MR.w_lg {μ : Mem} {s : St} (h : MR μ s) {x i : Nat} {v : Nat} (hi : i < 12) : MR (sI μ 26 (12 * x + i) (nI v)) (ulg s (up2 (lg s) x i v)) :=
  ⟨fun x hx => (congrFun (mI_ne (by decide)) _).trans (h.pcel x hx),
    fun x hx => (congrFun (mI_ne (by decide)) _).trans (h.psta x hx),
    fun x hx => (congrFun (mI_ne (by decide)) _).trans (h.pad x hx),
    fun x hx => (congrFun (mI_ne (by decide)) _).trans (h.psz x hx),
    fun x hx => (congrFun (mI_ne (by decide)) _).trans (h.ptg x hx),
    fun x hx => (congrFun (mI_ne (by decide)) _).trans (h.pct x hx),
    fun x hx => (congrFun (mI_ne (by decide)) _).trans (h.pco x hx),
    fun x i hx hi => (congrFun (mI_ne (by decide)) _).trans (h.pfl x i hx hi),
    fun y k hy hk => by
      show mI (sI μ 26 (12 * x + i) (nI v)) 26 (12 * y + k) = _
      rw [mI_sI]
      by_cases e : y = x ∧ k = i
      · obtain ⟨rfl, rfl⟩ := e
        rw [if_pos ⟨rfl, rfl⟩]
        exact congrArg _ (if_pos ⟨rfl, rfl⟩ : up2 (lg s) y k v y k = v).symm
      · rw [if_neg (fun z => e (by have := z.2; omega))]
        exact (h.plg y k hy hk).trans (congrArg _ (if_neg e : up2 (lg s) x i v y k = lg s y k).symm),
    (congrFun (mI_ne (by decide)) _).trans h.pnx,
    fun x hx => (congrFun (mI_ne (by decide)) _).trans (h.prt x hx),
    fun x hx => (congrFun (mI_ne (by decide)) _).trans (h.pbf x hx),
    (congrFun (mI_ne (by decide)) _).trans h.phf,
    (congrFun (mI_ne (by decide)) _).trans h.phe,
    (congrFun (mI_ne (by decide)) _).trans h.phc,
    (congrFun (mI_ne (by decide)) _).trans h.pov,
    (congrFun (mI_ne (by decide)) _).trans h.poc,
    (congrFun (mI_ne (by decide)) _).trans h.pcl,
    fun x hx => (congrFun (mI_ne (by decide)) _).trans (h.plf x hx),
    (congrFun (mI_ne (by decide)) _).trans h.prowN,
    fun k x hk => (congrFun (mI_ne (by decide)) _).trans (h.prow k x hk),
    (congrFun (mI_ne (by decide)) _).trans h.plogN,
    fun k x i o hk => ⟨(congrFun (mI_ne (by decide)) _).trans (h.plog k x i o hk).1, (congrFun (mI_ne (by decide)) _).trans (h.plog k x i o hk).2⟩,
    (congrFun (mI_ne (by decide)) _).trans h.ptr,
    (congrFun (mI_ne (by decide)) _).trans h.pps,
    (congrFun (mI_ne (by decide)) _).trans h.pmv,
    (congrFun (mI_ne (by decide)) _).trans h.pwh⟩
theorem MR.w_nx {μ : Mem} {s : St} (h : MR μ s) {v : Nat} : MR (sI μ 17 10 (nI v)) (unx s v) :=
  ⟨fun x hx => (congrFun (mI_ne (by decide)) _).trans (h.pcel x hx),
    fun x hx => (congrFun (mI_ne (by decide)) _).trans (h.psta x hx),
    fun x hx => (congrFun (mI_ne (by decide)) _).trans (h.pad x hx),
    fun x hx => (congrFun (mI_ne (by decide)) _).trans (h.psz x hx),
    fun x hx => (congrFun (mI_ne (by decide)) _).trans (h.ptg x hx),
    fun x hx => (congrFun (mI_ne (by decide)) _).trans (h.pct x hx),
    fun x hx => (congrFun (mI_ne (by decide)) _).trans (h.pco x hx),
    fun x i hx hi => (congrFun (mI_ne (by decide)) _).trans (h.pfl x i hx hi),
    fun x i hx hi => (congrFun (mI_ne (by decide)) _).trans (h.plg x i hx hi),
    mI_sI_self _ _ _ _,
    fun x hx => (congrFun (mI_ne (by decide)) _).trans (h.prt x hx),
    fun x hx => (congrFun (mI_ne (by decide)) _).trans (h.pbf x hx),
    (mI_no (by decide)).trans h.phf,
    (mI_no (by decide)).trans h.phe,
    (mI_no (by decide)).trans h.phc,
    (mI_no (by decide)).trans h.pov,
    (mI_no (by decide)).trans h.poc,
    (mI_no (by decide)).trans h.pcl,
    fun x hx => (congrFun (mI_ne (by decide)) _).trans (h.plf x hx),
    (mI_no (by decide)).trans h.prowN,
    fun k x hk => (congrFun (mI_ne (by decide)) _).trans (h.prow k x hk),
    (mI_no (by decide)).trans h.plogN,
    fun k x i o hk => ⟨(congrFun (mI_ne (by decide)) _).trans (h.plog k x i o hk).1, (congrFun (mI_ne (by decide)) _).trans (h.plog k x i o hk).2⟩,
    (mI_no (by decide)).trans h.ptr,
    (mI_no (by decide)).trans h.pps,
    (mI_no (by decide)).trans h.pmv,
    (mI_no (by decide)).trans h.pwh⟩
theorem MR.w_rt {μ : Mem} {s : St} (h : MR μ s) {x : Nat} {v : Option Nat} : MR (sI μ 27 x (eo v)) (urt s (up (rt s) x v)) :=
  ⟨fun x hx => (congrFun (mI_ne (by decide)) _).trans (h.pcel x hx),
    fun x hx => (congrFun (mI_ne (by decide)) _).trans (h.psta x hx),
    fun x hx => (congrFun (mI_ne (by decide)) _).trans (h.pad x hx),
    fun x hx => (congrFun (mI_ne (by decide)) _).trans (h.psz x hx),
    fun x hx => (congrFun (mI_ne (by decide)) _).trans (h.ptg x hx),
    fun x hx => (congrFun (mI_ne (by decide)) _).trans (h.pct x hx),
    fun x hx => (congrFun (mI_ne (by decide)) _).trans (h.pco x hx),
    fun x i hx hi => (congrFun (mI_ne (by decide)) _).trans (h.pfl x i hx hi),
    fun x i hx hi => (congrFun (mI_ne (by decide)) _).trans (h.plg x i hx hi),
    (congrFun (mI_ne (by decide)) _).trans h.pnx,
    fun y hy => by
      show mI (sI μ 27 x (eo v)) 27 y = _
      rw [mI_sI]
      by_cases e : y = x
      · subst e
        rw [if_pos ⟨rfl, rfl⟩]
        exact congrArg _ (up_self _ _ _).symm
      · rw [if_neg (fun z => e z.2)]
        exact (h.prt y hy).trans (congrArg _ (up_ne e).symm),
    fun x hx => (congrFun (mI_ne (by decide)) _).trans (h.pbf x hx),
    (congrFun (mI_ne (by decide)) _).trans h.phf,
    (congrFun (mI_ne (by decide)) _).trans h.phe,
    (congrFun (mI_ne (by decide)) _).trans h.phc,
    (congrFun (mI_ne (by decide)) _).trans h.pov,
    (congrFun (mI_ne (by decide)) _).trans h.poc,
    (congrFun (mI_ne (by decide)) _).trans h.pcl,
    fun x hx => (congrFun (mI_ne (by decide)) _).trans (h.plf x hx),
    (congrFun (mI_ne (by decide)) _).trans h.prowN,
    fun k x hk => (congrFun (mI_ne (by decide)) _).trans (h.prow k x hk),
    (congrFun (mI_ne (by decide)) _).trans h.plogN,
    fun k x i o hk => ⟨(congrFun (mI_ne (by decide)) _).trans (h.plog k x i o hk).1, (congrFun (mI_ne (by decide)) _).trans (h.plog k x i o hk).2⟩,
    (congrFun (mI_ne (by decide)) _).trans h.ptr,
    (congrFun (mI_ne (by decide)) _).trans h.pps,
    (congrFun (mI_ne (by decide)) _).trans h.pmv,
    (congrFun (mI_ne (by decide)) _).trans h.pwh⟩
theorem MR.w_bf {μ : Mem} {s : St} (h : MR μ s) {x : Nat} {v : Option Nat} : MR (sI μ 28 x (eo v)) (ubf s (up (bf s) x v)) :=
  ⟨fun x hx => (congrFun (mI_ne (by decide)) _).trans (h.pcel x hx),
    fun x hx => (congrFun (mI_ne (by decide)) _).trans (h.psta x hx),
    fun x hx => (congrFun (mI_ne (by decide)) _).trans (h.pad x hx),
    fun x hx => (congrFun (mI_ne (by decide)) _).trans (h.psz x hx),
    fun x hx => (congrFun (mI_ne (by decide)) _).trans (h.ptg x hx),
    fun x hx => (congrFun (mI_ne (by decide)) _).trans (h.pct x hx),
    fun x hx => (congrFun (mI_ne (by decide)) _).trans (h.pco x hx),
    fun x i hx hi => (congrFun (mI_ne (by decide)) _).trans (h.pfl x i hx hi),
    fun x i hx hi => (congrFun (mI_ne (by decide)) _).trans (h.plg x i hx hi),
    (congrFun (mI_ne (by decide)) _).trans h.pnx,
    fun x hx => (congrFun (mI_ne (by decide)) _).trans (h.prt x hx),
    fun y hy => by
      show mI (sI μ 28 x (eo v)) 28 y = _
      rw [mI_sI]
      by_cases e : y = x
      · subst e
        rw [if_pos ⟨rfl, rfl⟩]
        exact congrArg _ (up_self _ _ _).symm
      · rw [if_neg (fun z => e z.2)]
        exact (h.pbf y hy).trans (congrArg _ (up_ne e).symm),
    (congrFun (mI_ne (by decide)) _).trans h.phf,
    (congrFun (mI_ne (by decide)) _).trans h.phe,
    (congrFun (mI_ne (by decide)) _).trans h.phc,
    (congrFun (mI_ne (by decide)) _).trans h.pov,
    (congrFun (mI_ne (by decide)) _).trans h.poc,
    (congrFun (mI_ne (by decide)) _).trans h.pcl,
    fun x hx => (congrFun (mI_ne (by decide)) _).trans (h.plf x hx),
    (congrFun (mI_ne (by decide)) _).trans h.prowN,
    fun k x hk => (congrFun (mI_ne (by decide)) _).trans (h.prow k x hk),
    (congrFun (mI_ne (by decide)) _).trans h.plogN,
    fun k x i o hk => ⟨(congrFun (mI_ne (by decide)) _).trans (h.plog k x i o hk).1, (congrFun (mI_ne (by decide)) _).trans (h.plog k x i o hk).2⟩,
    (congrFun (mI_ne (by decide)) _).trans h.ptr,
    (congrFun (mI_ne (by decide)) _).trans h.pps,
    (congrFun (mI_ne (by decide)) _).trans h.pmv,
    (congrFun (mI_ne (by decide)) _).trans h.pwh⟩
theorem MR.w_hf {μ : Mem} {s : St} (h : MR μ s) {v : Int32} : MR (sI μ 17 13 (v)) (uhf s v) :=
  ⟨fun x hx => (congrFun (mI_ne (by decide)) _).trans (h.pcel x hx),
    fun x hx => (congrFun (mI_ne (by decide)) _).trans (h.psta x hx),
    fun x hx => (congrFun (mI_ne (by decide)) _).trans (h.pad x hx),
    fun x hx => (congrFun (mI_ne (by decide)) _).trans (h.psz x hx),
    fun x hx => (congrFun (mI_ne (by decide)) _).trans (h.ptg x hx),
    fun x hx => (congrFun (mI_ne (by decide)) _).trans (h.pct x hx),
    fun x hx => (congrFun (mI_ne (by decide)) _).trans (h.pco x hx),
    fun x i hx hi => (congrFun (mI_ne (by decide)) _).trans (h.pfl x i hx hi),
    fun x i hx hi => (congrFun (mI_ne (by decide)) _).trans (h.plg x i hx hi),
    (mI_no (by decide)).trans h.pnx,
    fun x hx => (congrFun (mI_ne (by decide)) _).trans (h.prt x hx),
    fun x hx => (congrFun (mI_ne (by decide)) _).trans (h.pbf x hx),
    mI_sI_self _ _ _ _,
    (mI_no (by decide)).trans h.phe,
    (mI_no (by decide)).trans h.phc,
    (mI_no (by decide)).trans h.pov,
    (mI_no (by decide)).trans h.poc,
    (mI_no (by decide)).trans h.pcl,
    fun x hx => (congrFun (mI_ne (by decide)) _).trans (h.plf x hx),
    (mI_no (by decide)).trans h.prowN,
    fun k x hk => (congrFun (mI_ne (by decide)) _).trans (h.prow k x hk),
    (mI_no (by decide)).trans h.plogN,
    fun k x i o hk => ⟨(congrFun (mI_ne (by decide)) _).trans (h.plog k x i o hk).1, (congrFun (mI_ne (by decide)) _).trans (h.plog k x i o hk).2⟩,
    (mI_no (by decide)).trans h.ptr,
    (mI_no (by decide)).trans h.pps,
    (mI_no (by decide)).trans h.pmv,
    (mI_no (by decide)).trans h.pwh⟩
theorem MR.w_he {μ : Mem} {s : St} (h : MR μ s) {v : Int32} : MR (sI μ 17 14 (v)) (uhe s v) :=
  ⟨fun x hx => (congrFun (mI_ne (by decide)) _).trans (h.pcel x hx),
    fun x hx => (congrFun (mI_ne (by decide)) _).trans (h.psta x hx),
    fun x hx => (congrFun (mI_ne (by decide)) _).trans (h.pad x hx),
    fun x hx => (congrFun (mI_ne (by decide)) _).trans (h.psz x hx),
    fun x hx => (congrFun (mI_ne (by decide)) _).trans (h.ptg x hx),
    fun x hx => (congrFun (mI_ne (by decide)) _).trans (h.pct x hx),
    fun x hx => (congrFun (mI_ne (by decide)) _).trans (h.pco x hx),
    fun x i hx hi => (congrFun (mI_ne (by decide)) _).trans (h.pfl x i hx hi),
    fun x i hx hi => (congrFun (mI_ne (by decide)) _).trans (h.plg x i hx hi),
    (mI_no (by decide)).trans h.pnx,
    fun x hx => (congrFun (mI_ne (by decide)) _).trans (h.prt x hx),
    fun x hx => (congrFun (mI_ne (by decide)) _).trans (h.pbf x hx),
    (mI_no (by decide)).trans h.phf,
    mI_sI_self _ _ _ _,
    (mI_no (by decide)).trans h.phc,
    (mI_no (by decide)).trans h.pov,
    (mI_no (by decide)).trans h.poc,
    (mI_no (by decide)).trans h.pcl,
    fun x hx => (congrFun (mI_ne (by decide)) _).trans (h.plf x hx),
    (mI_no (by decide)).trans h.prowN,
    fun k x hk => (congrFun (mI_ne (by decide)) _).trans (h.prow k x hk),
    (mI_no (by decide)).trans h.plogN,
    fun k x i o hk => ⟨(congrFun (mI_ne (by decide)) _).trans (h.plog k x i o hk).1, (congrFun (mI_ne (by decide)) _).trans (h.plog k x i o hk).2⟩,
    (mI_no (by decide)).trans h.ptr,
    (mI_no (by decide)).trans h.pps,
    (mI_no (by decide)).trans h.pmv,
    (mI_no (by decide)).trans h.pwh⟩
theorem MR.w_hc {μ : Mem} {s : St} (h : MR μ s) {v : Int32} : MR (sI μ 17 15 (v)) (uhc s v) :=
  ⟨fun x hx => (congrFun (mI_ne (by decide)) _).trans (h.pcel x hx),
    fun x hx => (congrFun (mI_ne (by decide)) _).trans (h.psta x hx),
    fun x hx => (congrFun (mI_ne (by decide)) _).trans (h.pad x hx),
    fun x hx => (congrFun (mI_ne (by decide)) _).trans (h.psz x hx),
    fun x hx => (congrFun (mI_ne (by decide)) _).trans (h.ptg x hx),
    fun x hx => (congrFun (mI_ne (by decide)) _).trans (h.pct x hx),
    fun x hx => (congrFun (mI_ne (by decide)) _).trans (h.pco x hx),
    fun x i hx hi => (congrFun (mI_ne (by decide)) _).trans (h.pfl x i hx hi),
    fun x i hx hi => (congrFun (mI_ne (by decide)) _).trans (h.plg x i hx hi),
    (mI_no (by decide)).trans h.pnx,
    fun x hx => (congrFun (mI_ne (by decide)) _).trans (h.prt x hx),
    fun x hx => (congrFun (mI_ne (by decide)) _).trans (h.pbf x hx),
    (mI_no (by decide)).trans h.phf,
    (mI_no (by decide)).trans h.phe,
    mI_sI_self _ _ _ _,
    (mI_no (by decide)).trans h.pov,
    (mI_no (by decide)).trans h.poc,
    (mI_no (by decide)).trans h.pcl,
    fun x hx => (congrFun (mI_ne (by decide)) _).trans (h.plf x hx),
    (mI_no (by decide)).trans h.prowN,
    fun k x hk => (congrFun (mI_ne (by decide)) _).trans (h.prow k x hk),
    (mI_no (by decide)).trans h.plogN,
    fun k x i o hk => ⟨(congrFun (mI_ne (by decide)) _).trans (h.plog k x i o hk).1, (congrFun (mI_ne (by decide)) _).trans (h.plog k x i o hk).2⟩,
    (mI_no (by decide)).trans h.ptr,
    (mI_no (by decide)).trans h.pps,
    (mI_no (by decide)).trans h.pmv,
    (mI_no (by decide)).trans h.pwh⟩
theorem MR.w_ov {μ : Mem} {s : St} (h : MR μ s) {v : Int32} : MR (sI μ 17 16 (v)) (uov s v) :=
  ⟨fun x hx => (congrFun (mI_ne (by decide)) _).trans (h.pcel x hx),
    fun x hx => (congrFun (mI_ne (by decide)) _).trans (h.psta x hx),
    fun x hx => (congrFun (mI_ne (by decide)) _).trans (h.pad x hx),
    fun x hx => (congrFun (mI_ne (by decide)) _).trans (h.psz x hx),
    fun x hx => (congrFun (mI_ne (by decide)) _).trans (h.ptg x hx),
    fun x hx => (congrFun (mI_ne (by decide)) _).trans (h.pct x hx),
    fun x hx => (congrFun (mI_ne (by decide)) _).trans (h.pco x hx),
    fun x i hx hi => (congrFun (mI_ne (by decide)) _).trans (h.pfl x i hx hi),
    fun x i hx hi => (congrFun (mI_ne (by decide)) _).trans (h.plg x i hx hi),
    (mI_no (by decide)).trans h.pnx,
    fun x hx => (congrFun (mI_ne (by decide)) _).trans (h.prt x hx),
    fun x hx => (congrFun (mI_ne (by decide)) _).trans (h.pbf x hx),
    (mI_no (by decide)).trans h.phf,
    (mI_no (by decide)).trans h.phe,
    (mI_no (by decide)).trans h.phc,
    mI_sI_self _ _ _ _,
    (mI_no (by decide)).trans h.poc,
    (mI_no (by decide)).trans h.pcl,
    fun x hx => (congrFun (mI_ne (by decide)) _).trans (h.plf x hx),
    (mI_no (by decide)).trans h.prowN,
    fun k x hk => (congrFun (mI_ne (by decide)) _).trans (h.prow k x hk),
    (mI_no (by decide)).trans h.plogN,
    fun k x i o hk => ⟨(congrFun (mI_ne (by decide)) _).trans (h.plog k x i o hk).1, (congrFun (mI_ne (by decide)) _).trans (h.plog k x i o hk).2⟩,
    (mI_no (by decide)).trans h.ptr,
    (mI_no (by decide)).trans h.pps,
    (mI_no (by decide)).trans h.pmv,
    (mI_no (by decide)).trans h.pwh⟩
theorem MR.w_oc {μ : Mem} {s : St} (h : MR μ s) {v : Int32} : MR (sI μ 17 17 (v)) (uoc s v) :=
  ⟨fun x hx => (congrFun (mI_ne (by decide)) _).trans (h.pcel x hx),
    fun x hx => (congrFun (mI_ne (by decide)) _).trans (h.psta x hx),
    fun x hx => (congrFun (mI_ne (by decide)) _).trans (h.pad x hx),
    fun x hx => (congrFun (mI_ne (by decide)) _).trans (h.psz x hx),
    fun x hx => (congrFun (mI_ne (by decide)) _).trans (h.ptg x hx),
    fun x hx => (congrFun (mI_ne (by decide)) _).trans (h.pct x hx),
    fun x hx => (congrFun (mI_ne (by decide)) _).trans (h.pco x hx),
    fun x i hx hi => (congrFun (mI_ne (by decide)) _).trans (h.pfl x i hx hi),
    fun x i hx hi => (congrFun (mI_ne (by decide)) _).trans (h.plg x i hx hi),
    (mI_no (by decide)).trans h.pnx,
    fun x hx => (congrFun (mI_ne (by decide)) _).trans (h.prt x hx),
    fun x hx => (congrFun (mI_ne (by decide)) _).trans (h.pbf x hx),
    (mI_no (by decide)).trans h.phf,
    (mI_no (by decide)).trans h.phe,
    (mI_no (by decide)).trans h.phc,
    (mI_no (by decide)).trans h.pov,
    mI_sI_self _ _ _ _,
    (mI_no (by decide)).trans h.pcl,
    fun x hx => (congrFun (mI_ne (by decide)) _).trans (h.plf x hx),
    (mI_no (by decide)).trans h.prowN,
    fun k x hk => (congrFun (mI_ne (by decide)) _).trans (h.prow k x hk),
    (mI_no (by decide)).trans h.plogN,
    fun k x i o hk => ⟨(congrFun (mI_ne (by decide)) _).trans (h.plog k x i o hk).1, (congrFun (mI_ne (by decide)) _).trans (h.plog k x i o hk).2⟩,
    (mI_no (by decide)).trans h.ptr,
    (mI_no (by decide)).trans h.pps,
    (mI_no (by decide)).trans h.pmv,
    (mI_no (by decide)).trans h.pwh⟩
theorem MR.w_cl {μ : Mem} {s : St} (h : MR μ s) {v : Int32} : MR (sI μ 17 19 (v)) (ucl s v) :=
  ⟨fun x hx => (congrFun (mI_ne (by decide)) _).trans (h.pcel x hx),
    fun x hx => (congrFun (mI_ne (by decide)) _).trans (h.psta x hx),
    fun x hx => (congrFun (mI_ne (by decide)) _).trans (h.pad x hx),
    fun x hx => (congrFun (mI_ne (by decide)) _).trans (h.psz x hx),
    fun x hx => (congrFun (mI_ne (by decide)) _).trans (h.ptg x hx),
    fun x hx => (congrFun (mI_ne (by decide)) _).trans (h.pct x hx),
    fun x hx => (congrFun (mI_ne (by decide)) _).trans (h.pco x hx),
    fun x i hx hi => (congrFun (mI_ne (by decide)) _).trans (h.pfl x i hx hi),
    fun x i hx hi => (congrFun (mI_ne (by decide)) _).trans (h.plg x i hx hi),
    (mI_no (by decide)).trans h.pnx,
    fun x hx => (congrFun (mI_ne (by decide)) _).trans (h.prt x hx),
    fun x hx => (congrFun (mI_ne (by decide)) _).trans (h.pbf x hx),
    (mI_no (by decide)).trans h.phf,
    (mI_no (by decide)).trans h.phe,
    (mI_no (by decide)).trans h.phc,
    (mI_no (by decide)).trans h.pov,
    (mI_no (by decide)).trans h.poc,
    mI_sI_self _ _ _ _,
    fun x hx => (congrFun (mI_ne (by decide)) _).trans (h.plf x hx),
    (mI_no (by decide)).trans h.prowN,
    fun k x hk => (congrFun (mI_ne (by decide)) _).trans (h.prow k x hk),
    (mI_no (by decide)).trans h.plogN,
    fun k x i o hk => ⟨(congrFun (mI_ne (by decide)) _).trans (h.plog k x i o hk).1, (congrFun (mI_ne (by decide)) _).trans (h.plog k x i o hk).2⟩,
    (mI_no (by decide)).trans h.ptr,
    (mI_no (by decide)).trans h.pps,
    (mI_no (by decide)).trans h.pmv,
    (mI_no (by decide)).trans h.pwh⟩
theorem MR.w_lf {μ : Mem} {s : St} (h : MR μ s) {x : Nat} {v : Nat} : MR (sI μ 29 x (nI v)) (ulf s (up (lf s) x v)) :=
  ⟨fun x hx => (congrFun (mI_ne (by decide)) _).trans (h.pcel x hx),
    fun x hx => (congrFun (mI_ne (by decide)) _).trans (h.psta x hx),
    fun x hx => (congrFun (mI_ne (by decide)) _).trans (h.pad x hx),
    fun x hx => (congrFun (mI_ne (by decide)) _).trans (h.psz x hx),
    fun x hx => (congrFun (mI_ne (by decide)) _).trans (h.ptg x hx),
    fun x hx => (congrFun (mI_ne (by decide)) _).trans (h.pct x hx),
    fun x hx => (congrFun (mI_ne (by decide)) _).trans (h.pco x hx),
    fun x i hx hi => (congrFun (mI_ne (by decide)) _).trans (h.pfl x i hx hi),
    fun x i hx hi => (congrFun (mI_ne (by decide)) _).trans (h.plg x i hx hi),
    (congrFun (mI_ne (by decide)) _).trans h.pnx,
    fun x hx => (congrFun (mI_ne (by decide)) _).trans (h.prt x hx),
    fun x hx => (congrFun (mI_ne (by decide)) _).trans (h.pbf x hx),
    (congrFun (mI_ne (by decide)) _).trans h.phf,
    (congrFun (mI_ne (by decide)) _).trans h.phe,
    (congrFun (mI_ne (by decide)) _).trans h.phc,
    (congrFun (mI_ne (by decide)) _).trans h.pov,
    (congrFun (mI_ne (by decide)) _).trans h.poc,
    (congrFun (mI_ne (by decide)) _).trans h.pcl,
    fun y hy => by
      show mI (sI μ 29 x (nI v)) 29 y = _
      rw [mI_sI]
      by_cases e : y = x
      · subst e
        rw [if_pos ⟨rfl, rfl⟩]
        exact congrArg _ (up_self _ _ _).symm
      · rw [if_neg (fun z => e z.2)]
        exact (h.plf y hy).trans (congrArg _ (up_ne e).symm),
    (congrFun (mI_ne (by decide)) _).trans h.prowN,
    fun k x hk => (congrFun (mI_ne (by decide)) _).trans (h.prow k x hk),
    (congrFun (mI_ne (by decide)) _).trans h.plogN,
    fun k x i o hk => ⟨(congrFun (mI_ne (by decide)) _).trans (h.plog k x i o hk).1, (congrFun (mI_ne (by decide)) _).trans (h.plog k x i o hk).2⟩,
    (congrFun (mI_ne (by decide)) _).trans h.ptr,
    (congrFun (mI_ne (by decide)) _).trans h.pps,
    (congrFun (mI_ne (by decide)) _).trans h.pmv,
    (congrFun (mI_ne (by decide)) _).trans h.pwh⟩
theorem MR.w_tr {μ : Mem} {s : St} (h : MR μ s) {v : Nat} : MR (sI μ 17 27 (nI v)) (utr s v) :=
  ⟨fun x hx => (congrFun (mI_ne (by decide)) _).trans (h.pcel x hx),
    fun x hx => (congrFun (mI_ne (by decide)) _).trans (h.psta x hx),
    fun x hx => (congrFun (mI_ne (by decide)) _).trans (h.pad x hx),
    fun x hx => (congrFun (mI_ne (by decide)) _).trans (h.psz x hx),
    fun x hx => (congrFun (mI_ne (by decide)) _).trans (h.ptg x hx),
    fun x hx => (congrFun (mI_ne (by decide)) _).trans (h.pct x hx),
    fun x hx => (congrFun (mI_ne (by decide)) _).trans (h.pco x hx),
    fun x i hx hi => (congrFun (mI_ne (by decide)) _).trans (h.pfl x i hx hi),
    fun x i hx hi => (congrFun (mI_ne (by decide)) _).trans (h.plg x i hx hi),
    (mI_no (by decide)).trans h.pnx,
    fun x hx => (congrFun (mI_ne (by decide)) _).trans (h.prt x hx),
    fun x hx => (congrFun (mI_ne (by decide)) _).trans (h.pbf x hx),
    (mI_no (by decide)).trans h.phf,
    (mI_no (by decide)).trans h.phe,
    (mI_no (by decide)).trans h.phc,
    (mI_no (by decide)).trans h.pov,
    (mI_no (by decide)).trans h.poc,
    (mI_no (by decide)).trans h.pcl,
    fun x hx => (congrFun (mI_ne (by decide)) _).trans (h.plf x hx),
    (mI_no (by decide)).trans h.prowN,
    fun k x hk => (congrFun (mI_ne (by decide)) _).trans (h.prow k x hk),
    (mI_no (by decide)).trans h.plogN,
    fun k x i o hk => ⟨(congrFun (mI_ne (by decide)) _).trans (h.plog k x i o hk).1, (congrFun (mI_ne (by decide)) _).trans (h.plog k x i o hk).2⟩,
    mI_sI_self _ _ _ _,
    (mI_no (by decide)).trans h.pps,
    (mI_no (by decide)).trans h.pmv,
    (mI_no (by decide)).trans h.pwh⟩
theorem MR.w_ps {μ : Mem} {s : St} (h : MR μ s) {v : Int32} : MR (sI μ 17 28 (v)) (ups s v) :=
  ⟨fun x hx => (congrFun (mI_ne (by decide)) _).trans (h.pcel x hx),
    fun x hx => (congrFun (mI_ne (by decide)) _).trans (h.psta x hx),
    fun x hx => (congrFun (mI_ne (by decide)) _).trans (h.pad x hx),
    fun x hx => (congrFun (mI_ne (by decide)) _).trans (h.psz x hx),
    fun x hx => (congrFun (mI_ne (by decide)) _).trans (h.ptg x hx),
    fun x hx => (congrFun (mI_ne (by decide)) _).trans (h.pct x hx),
    fun x hx => (congrFun (mI_ne (by decide)) _).trans (h.pco x hx),
    fun x i hx hi => (congrFun (mI_ne (by decide)) _).trans (h.pfl x i hx hi),
    fun x i hx hi => (congrFun (mI_ne (by decide)) _).trans (h.plg x i hx hi),
    (mI_no (by decide)).trans h.pnx,
    fun x hx => (congrFun (mI_ne (by decide)) _).trans (h.prt x hx),
    fun x hx => (congrFun (mI_ne (by decide)) _).trans (h.pbf x hx),
    (mI_no (by decide)).trans h.phf,
    (mI_no (by decide)).trans h.phe,
    (mI_no (by decide)).trans h.phc,
    (mI_no (by decide)).trans h.pov,
    (mI_no (by decide)).trans h.poc,
    (mI_no (by decide)).trans h.pcl,
    fun x hx => (congrFun (mI_ne (by decide)) _).trans (h.plf x hx),
    (mI_no (by decide)).trans h.prowN,
    fun k x hk => (congrFun (mI_ne (by decide)) _).trans (h.prow k x hk),
    (mI_no (by decide)).trans h.plogN,
    fun k x i o hk => ⟨(congrFun (mI_ne (by decide)) _).trans (h.plog k x i o hk).1, (congrFun (mI_ne (by decide)) _).trans (h.plog k x i o hk).2⟩,
    (mI_no (by decide)).trans h.ptr,
    mI_sI_self _ _ _ _,
    (mI_no (by decide)).trans h.pmv,
    (mI_no (by decide)).trans h.pwh⟩
theorem MR.w_mv {μ : Mem} {s : St} (h : MR μ s) {v : Int32} : MR (sI μ 17 29 (v)) (umv s v) :=
  ⟨fun x hx => (congrFun (mI_ne (by decide)) _).trans (h.pcel x hx),
    fun x hx => (congrFun (mI_ne (by decide)) _).trans (h.psta x hx),
    fun x hx => (congrFun (mI_ne (by decide)) _).trans (h.pad x hx),
    fun x hx => (congrFun (mI_ne (by decide)) _).trans (h.psz x hx),
    fun x hx => (congrFun (mI_ne (by decide)) _).trans (h.ptg x hx),
    fun x hx => (congrFun (mI_ne (by decide)) _).trans (h.pct x hx),
    fun x hx => (congrFun (mI_ne (by decide)) _).trans (h.pco x hx),
    fun x i hx hi => (congrFun (mI_ne (by decide)) _).trans (h.pfl x i hx hi),
    fun x i hx hi => (congrFun (mI_ne (by decide)) _).trans (h.plg x i hx hi),
    (mI_no (by decide)).trans h.pnx,
    fun x hx => (congrFun (mI_ne (by decide)) _).trans (h.prt x hx),
    fun x hx => (congrFun (mI_ne (by decide)) _).trans (h.pbf x hx),
    (mI_no (by decide)).trans h.phf,
    (mI_no (by decide)).trans h.phe,
    (mI_no (by decide)).trans h.phc,
    (mI_no (by decide)).trans h.pov,
    (mI_no (by decide)).trans h.poc,
    (mI_no (by decide)).trans h.pcl,
    fun x hx => (congrFun (mI_ne (by decide)) _).trans (h.plf x hx),
    (mI_no (by decide)).trans h.prowN,
    fun k x hk => (congrFun (mI_ne (by decide)) _).trans (h.prow k x hk),
    (mI_no (by decide)).trans h.plogN,
    fun k x i o hk => ⟨(congrFun (mI_ne (by decide)) _).trans (h.plog k x i o hk).1, (congrFun (mI_ne (by decide)) _).trans (h.plog k x i o hk).2⟩,
    (mI_no (by decide)).trans h.ptr,
    (mI_no (by decide)).trans h.pps,
    mI_sI_self _ _ _ _,
    (mI_no (by decide)).trans h.pwh⟩
theorem MR.w_wh {μ : Mem} {s : St} (h : MR μ s) {v : Int32} : MR (sI μ 17 30 (v)) (uwh s v) :=
  ⟨fun x hx => (congrFun (mI_ne (by decide)) _).trans (h.pcel x hx),
    fun x hx => (congrFun (mI_ne (by decide)) _).trans (h.psta x hx),
    fun x hx => (congrFun (mI_ne (by decide)) _).trans (h.pad x hx),
    fun x hx => (congrFun (mI_ne (by decide)) _).trans (h.psz x hx),
    fun x hx => (congrFun (mI_ne (by decide)) _).trans (h.ptg x hx),
    fun x hx => (congrFun (mI_ne (by decide)) _).trans (h.pct x hx),
    fun x hx => (congrFun (mI_ne (by decide)) _).trans (h.pco x hx),
    fun x i hx hi => (congrFun (mI_ne (by decide)) _).trans (h.pfl x i hx hi),
    fun x i hx hi => (congrFun (mI_ne (by decide)) _).trans (h.plg x i hx hi),
    (mI_no (by decide)).trans h.pnx,
    fun x hx => (congrFun (mI_ne (by decide)) _).trans (h.prt x hx),
    fun x hx => (congrFun (mI_ne (by decide)) _).trans (h.pbf x hx),
    (mI_no (by decide)).trans h.phf,
    (mI_no (by decide)).trans h.phe,
    (mI_no (by decide)).trans h.phc,
    (mI_no (by decide)).trans h.pov,
    (mI_no (by decide)).trans h.poc,
    (mI_no (by decide)).trans h.pcl,
    fun x hx => (congrFun (mI_ne (by decide)) _).trans (h.plf x hx),
    (mI_no (by decide)).trans h.prowN,
    fun k x hk => (congrFun (mI_ne (by decide)) _).trans (h.prow k x hk),
    (mI_no (by decide)).trans h.plogN,
    fun k x i o hk => ⟨(congrFun (mI_ne (by decide)) _).trans (h.plog k x i o hk).1, (congrFun (mI_ne (by decide)) _).trans (h.plog k x i o hk).2⟩,
    (mI_no (by decide)).trans h.ptr,
    (mI_no (by decide)).trans h.pps,
    (mI_no (by decide)).trans h.pmv,
    mI_sI_self _ _ _ _⟩
theorem MR.w_code {μ : Mem} {s : St} (h : MR μ s) {v : Int32} : MR (sI μ 17 0 v) s :=
  ⟨fun x hx => (congrFun (mI_ne (by decide)) _).trans (h.pcel x hx),
    fun x hx => (congrFun (mI_ne (by decide)) _).trans (h.psta x hx),
    fun x hx => (congrFun (mI_ne (by decide)) _).trans (h.pad x hx),
    fun x hx => (congrFun (mI_ne (by decide)) _).trans (h.psz x hx),
    fun x hx => (congrFun (mI_ne (by decide)) _).trans (h.ptg x hx),
    fun x hx => (congrFun (mI_ne (by decide)) _).trans (h.pct x hx),
    fun x hx => (congrFun (mI_ne (by decide)) _).trans (h.pco x hx),
    fun x i hx hi => (congrFun (mI_ne (by decide)) _).trans (h.pfl x i hx hi),
    fun x i hx hi => (congrFun (mI_ne (by decide)) _).trans (h.plg x i hx hi),
    (mI_no (by decide)).trans h.pnx,
    fun x hx => (congrFun (mI_ne (by decide)) _).trans (h.prt x hx),
    fun x hx => (congrFun (mI_ne (by decide)) _).trans (h.pbf x hx),
    (mI_no (by decide)).trans h.phf,
    (mI_no (by decide)).trans h.phe,
    (mI_no (by decide)).trans h.phc,
    (mI_no (by decide)).trans h.pov,
    (mI_no (by decide)).trans h.poc,
    (mI_no (by decide)).trans h.pcl,
    fun x hx => (congrFun (mI_ne (by decide)) _).trans (h.plf x hx),
    (mI_no (by decide)).trans h.prowN,
    fun k x hk => (congrFun (mI_ne (by decide)) _).trans (h.prow k x hk),
    (mI_no (by decide)).trans h.plogN,
    fun k x i o hk => ⟨(congrFun (mI_ne (by decide)) _).trans (h.plog k x i o hk).1, (congrFun (mI_ne (by decide)) _).trans (h.plog k x i o hk).2⟩,
    (mI_no (by decide)).trans h.ptr,
    (mI_no (by decide)).trans h.pps,
    (mI_no (by decide)).trans h.pmv,
    (mI_no (by decide)).trans h.pwh⟩
theorem MR.w_slotN {μ : Mem} {s : St} (h : MR μ s) {v : Int32} : MR (sI μ 17 26 v) s :=
  ⟨fun x hx => (congrFun (mI_ne (by decide)) _).trans (h.pcel x hx),
    fun x hx => (congrFun (mI_ne (by decide)) _).trans (h.psta x hx),
    fun x hx => (congrFun (mI_ne (by decide)) _).trans (h.pad x hx),
    fun x hx => (congrFun (mI_ne (by decide)) _).trans (h.psz x hx),
    fun x hx => (congrFun (mI_ne (by decide)) _).trans (h.ptg x hx),
    fun x hx => (congrFun (mI_ne (by decide)) _).trans (h.pct x hx),
    fun x hx => (congrFun (mI_ne (by decide)) _).trans (h.pco x hx),
    fun x i hx hi => (congrFun (mI_ne (by decide)) _).trans (h.pfl x i hx hi),
    fun x i hx hi => (congrFun (mI_ne (by decide)) _).trans (h.plg x i hx hi),
    (mI_no (by decide)).trans h.pnx,
    fun x hx => (congrFun (mI_ne (by decide)) _).trans (h.prt x hx),
    fun x hx => (congrFun (mI_ne (by decide)) _).trans (h.pbf x hx),
    (mI_no (by decide)).trans h.phf,
    (mI_no (by decide)).trans h.phe,
    (mI_no (by decide)).trans h.phc,
    (mI_no (by decide)).trans h.pov,
    (mI_no (by decide)).trans h.poc,
    (mI_no (by decide)).trans h.pcl,
    fun x hx => (congrFun (mI_ne (by decide)) _).trans (h.plf x hx),
    (mI_no (by decide)).trans h.prowN,
    fun k x hk => (congrFun (mI_ne (by decide)) _).trans (h.prow k x hk),
    (mI_no (by decide)).trans h.plogN,
    fun k x i o hk => ⟨(congrFun (mI_ne (by decide)) _).trans (h.plog k x i o hk).1, (congrFun (mI_ne (by decide)) _).trans (h.plog k x i o hk).2⟩,
    (mI_no (by decide)).trans h.ptr,
    (mI_no (by decide)).trans h.pps,
    (mI_no (by decide)).trans h.pmv,
    (mI_no (by decide)).trans h.pwh⟩
theorem MR.w_slot {μ : Mem} {s : St} (h : MR μ s) {j : Nat} {v : Int32} : MR (sI μ 33 j v) s :=
  ⟨fun x hx => (congrFun (mI_ne (by decide)) _).trans (h.pcel x hx),
    fun x hx => (congrFun (mI_ne (by decide)) _).trans (h.psta x hx),
    fun x hx => (congrFun (mI_ne (by decide)) _).trans (h.pad x hx),
    fun x hx => (congrFun (mI_ne (by decide)) _).trans (h.psz x hx),
    fun x hx => (congrFun (mI_ne (by decide)) _).trans (h.ptg x hx),
    fun x hx => (congrFun (mI_ne (by decide)) _).trans (h.pct x hx),
    fun x hx => (congrFun (mI_ne (by decide)) _).trans (h.pco x hx),
    fun x i hx hi => (congrFun (mI_ne (by decide)) _).trans (h.pfl x i hx hi),
    fun x i hx hi => (congrFun (mI_ne (by decide)) _).trans (h.plg x i hx hi),
    (congrFun (mI_ne (by decide)) _).trans h.pnx,
    fun x hx => (congrFun (mI_ne (by decide)) _).trans (h.prt x hx),
    fun x hx => (congrFun (mI_ne (by decide)) _).trans (h.pbf x hx),
    (congrFun (mI_ne (by decide)) _).trans h.phf,
    (congrFun (mI_ne (by decide)) _).trans h.phe,
    (congrFun (mI_ne (by decide)) _).trans h.phc,
    (congrFun (mI_ne (by decide)) _).trans h.pov,
    (congrFun (mI_ne (by decide)) _).trans h.poc,
    (congrFun (mI_ne (by decide)) _).trans h.pcl,
    fun x hx => (congrFun (mI_ne (by decide)) _).trans (h.plf x hx),
    (congrFun (mI_ne (by decide)) _).trans h.prowN,
    fun k x hk => (congrFun (mI_ne (by decide)) _).trans (h.prow k x hk),
    (congrFun (mI_ne (by decide)) _).trans h.plogN,
    fun k x i o hk => ⟨(congrFun (mI_ne (by decide)) _).trans (h.plog k x i o hk).1, (congrFun (mI_ne (by decide)) _).trans (h.plog k x i o hk).2⟩,
    (congrFun (mI_ne (by decide)) _).trans h.ptr,
    (congrFun (mI_ne (by decide)) _).trans h.pps,
    (congrFun (mI_ne (by decide)) _).trans h.pmv,
    (congrFun (mI_ne (by decide)) _).trans h.pwh⟩
theorem MR.ext {μ : Mem} {s t : St} (h : MR μ s) (e : eqS s t) : MR μ t := by
  obtain ⟨e0, e1, e2, e3, e4, e5, e6, e7, e8, e9, e10, e11, e12, e13, e14, e15, e16, e17, e18, e19, e20, e21, e22, e23, e24⟩ := e
  unfold MR
  rw [e0, e1, e2, e3, e4, e5, e6, e7, e8, e9, e10, e11, e12, e13, e14, e15, e16, e17, e18, e19, e20, e21, e22, e23, e24]
  exact h
theorem MR.frame {μ μ1 : Mem} {s : St} (h : MR μ s) (hF : ∀ r, 17 ≤ r ∧ r ≤ 33 → mI μ1 r = mI μ r) : MR μ1 s :=
  ⟨fun x hx => (congrFun (hF 18 (by decide)) _).trans (h.pcel x hx),
    fun x hx => (congrFun (hF 19 (by decide)) _).trans (h.psta x hx),
    fun x hx => (congrFun (hF 20 (by decide)) _).trans (h.pad x hx),
    fun x hx => (congrFun (hF 21 (by decide)) _).trans (h.psz x hx),
    fun x hx => (congrFun (hF 22 (by decide)) _).trans (h.ptg x hx),
    fun x hx => (congrFun (hF 23 (by decide)) _).trans (h.pct x hx),
    fun x hx => (congrFun (hF 24 (by decide)) _).trans (h.pco x hx),
    fun x i hx hi => (congrFun (hF 25 (by decide)) _).trans (h.pfl x i hx hi),
    fun x i hx hi => (congrFun (hF 26 (by decide)) _).trans (h.plg x i hx hi),
    (congrFun (hF 17 (by decide)) _).trans h.pnx,
    fun x hx => (congrFun (hF 27 (by decide)) _).trans (h.prt x hx),
    fun x hx => (congrFun (hF 28 (by decide)) _).trans (h.pbf x hx),
    (congrFun (hF 17 (by decide)) _).trans h.phf,
    (congrFun (hF 17 (by decide)) _).trans h.phe,
    (congrFun (hF 17 (by decide)) _).trans h.phc,
    (congrFun (hF 17 (by decide)) _).trans h.pov,
    (congrFun (hF 17 (by decide)) _).trans h.poc,
    (congrFun (hF 17 (by decide)) _).trans h.pcl,
    fun x hx => (congrFun (hF 29 (by decide)) _).trans (h.plf x hx),
    (congrFun (hF 17 (by decide)) _).trans h.prowN,
    fun k x hk => (congrFun (hF 30 (by decide)) _).trans (h.prow k x hk),
    (congrFun (hF 17 (by decide)) _).trans h.plogN,
    fun k x i o hk => ⟨(congrFun (hF 31 (by decide)) _).trans (h.plog k x i o hk).1, (congrFun (hF 32 (by decide)) _).trans (h.plog k x i o hk).2⟩,
    (congrFun (hF 17 (by decide)) _).trans h.ptr,
    (congrFun (hF 17 (by decide)) _).trans h.pps,
    (congrFun (hF 17 (by decide)) _).trans h.pmv,
    (congrFun (hF 17 (by decide)) _).trans h.pwh⟩
theorem MR.far5 {μ μ1 : Mem} {s : St} (h : MR μ s) (hF : ∀ r j, ¬ (r = 17 ∧ 13 ≤ j ∧ j ≤ 17) → mI μ1 r j = mI μ r j) : MR μ1 (uoc (uov (uhc (uhe (uhf s (mI μ1 17 13)) (mI μ1 17 14)) (mI μ1 17 15)) (mI μ1 17 16)) (mI μ1 17 17)) :=
  ⟨fun x hx => (hF 18 _ (by omega)).trans (h.pcel x hx),
    fun x hx => (hF 19 _ (by omega)).trans (h.psta x hx),
    fun x hx => (hF 20 _ (by omega)).trans (h.pad x hx),
    fun x hx => (hF 21 _ (by omega)).trans (h.psz x hx),
    fun x hx => (hF 22 _ (by omega)).trans (h.ptg x hx),
    fun x hx => (hF 23 _ (by omega)).trans (h.pct x hx),
    fun x hx => (hF 24 _ (by omega)).trans (h.pco x hx),
    fun x i hx hi => (hF 25 _ (by omega)).trans (h.pfl x i hx hi),
    fun x i hx hi => (hF 26 _ (by omega)).trans (h.plg x i hx hi),
    (hF 17 10 (by omega)).trans h.pnx,
    fun x hx => (hF 27 _ (by omega)).trans (h.prt x hx),
    fun x hx => (hF 28 _ (by omega)).trans (h.pbf x hx),
    rfl,
    rfl,
    rfl,
    rfl,
    rfl,
    (hF 17 19 (by omega)).trans h.pcl,
    fun x hx => (hF 29 _ (by omega)).trans (h.plf x hx),
    (hF 17 21 (by omega)).trans h.prowN,
    fun k x hk => (hF 30 _ (by omega)).trans (h.prow k x hk),
    (hF 17 24 (by omega)).trans h.plogN,
    fun k x i o hk => ⟨(hF 31 _ (by omega)).trans (h.plog k x i o hk).1, (hF 32 _ (by omega)).trans (h.plog k x i o hk).2⟩,
    (hF 17 27 (by omega)).trans h.ptr,
    (hF 17 28 (by omega)).trans h.pps,
    (hF 17 29 (by omega)).trans h.pmv,
    (hF 17 30 (by omega)).trans h.pwh⟩
theorem MR.rowset {μ μ1 : Mem} {s : St} {l : List Nat} (h : MR μ s) (hF : ∀ r j, r ≠ 30 → ¬ (r = 17 ∧ j = 21) → mI μ1 r j = mI μ r j) (h1 : mI μ1 17 21 = nI l.length) (h2 : ∀ k x, l[k]? = some x → mI μ1 30 k = nI x) : MR μ1 (urow s l) :=
  ⟨fun x hx => (hF 18 _ (by omega) (by omega)).trans (h.pcel x hx),
    fun x hx => (hF 19 _ (by omega) (by omega)).trans (h.psta x hx),
    fun x hx => (hF 20 _ (by omega) (by omega)).trans (h.pad x hx),
    fun x hx => (hF 21 _ (by omega) (by omega)).trans (h.psz x hx),
    fun x hx => (hF 22 _ (by omega) (by omega)).trans (h.ptg x hx),
    fun x hx => (hF 23 _ (by omega) (by omega)).trans (h.pct x hx),
    fun x hx => (hF 24 _ (by omega) (by omega)).trans (h.pco x hx),
    fun x i hx hi => (hF 25 _ (by omega) (by omega)).trans (h.pfl x i hx hi),
    fun x i hx hi => (hF 26 _ (by omega) (by omega)).trans (h.plg x i hx hi),
    (hF 17 10 (by omega) (by omega)).trans h.pnx,
    fun x hx => (hF 27 _ (by omega) (by omega)).trans (h.prt x hx),
    fun x hx => (hF 28 _ (by omega) (by omega)).trans (h.pbf x hx),
    (hF 17 13 (by omega) (by omega)).trans h.phf,
    (hF 17 14 (by omega) (by omega)).trans h.phe,
    (hF 17 15 (by omega) (by omega)).trans h.phc,
    (hF 17 16 (by omega) (by omega)).trans h.pov,
    (hF 17 17 (by omega) (by omega)).trans h.poc,
    (hF 17 19 (by omega) (by omega)).trans h.pcl,
    fun x hx => (hF 29 _ (by omega) (by omega)).trans (h.plf x hx),
    h1,
    h2,
    (hF 17 24 (by omega) (by omega)).trans h.plogN,
    fun k x i o hk => ⟨(hF 31 _ (by omega) (by omega)).trans (h.plog k x i o hk).1, (hF 32 _ (by omega) (by omega)).trans (h.plog k x i o hk).2⟩,
    (hF 17 27 (by omega) (by omega)).trans h.ptr,
    (hF 17 28 (by omega) (by omega)).trans h.pps,
    (hF 17 29 (by omega) (by omega)).trans h.pmv,
    (hF 17 30 (by omega) (by omega)).trans h.pwh⟩
theorem MR.logset {μ μ1 : Mem} {s : St} {l : List (Nat × Nat × Option Nat)} (h : MR μ s) (hF : ∀ r j, r ≠ 31 → r ≠ 32 → ¬ (r = 17 ∧ j = 24) → mI μ1 r j = mI μ r j) (h1 : mI μ1 17 24 = nI l.length) (h2 : ∀ k x i o, l[k]? = some (x, i, o) → mI μ1 31 k = nI (12 * x + i) ∧ mI μ1 32 k = eo o) : MR μ1 (ulog s l) :=
  ⟨fun x hx => (hF 18 _ (by omega) (by omega) (by omega)).trans (h.pcel x hx),
    fun x hx => (hF 19 _ (by omega) (by omega) (by omega)).trans (h.psta x hx),
    fun x hx => (hF 20 _ (by omega) (by omega) (by omega)).trans (h.pad x hx),
    fun x hx => (hF 21 _ (by omega) (by omega) (by omega)).trans (h.psz x hx),
    fun x hx => (hF 22 _ (by omega) (by omega) (by omega)).trans (h.ptg x hx),
    fun x hx => (hF 23 _ (by omega) (by omega) (by omega)).trans (h.pct x hx),
    fun x hx => (hF 24 _ (by omega) (by omega) (by omega)).trans (h.pco x hx),
    fun x i hx hi => (hF 25 _ (by omega) (by omega) (by omega)).trans (h.pfl x i hx hi),
    fun x i hx hi => (hF 26 _ (by omega) (by omega) (by omega)).trans (h.plg x i hx hi),
    (hF 17 10 (by omega) (by omega) (by omega)).trans h.pnx,
    fun x hx => (hF 27 _ (by omega) (by omega) (by omega)).trans (h.prt x hx),
    fun x hx => (hF 28 _ (by omega) (by omega) (by omega)).trans (h.pbf x hx),
    (hF 17 13 (by omega) (by omega) (by omega)).trans h.phf,
    (hF 17 14 (by omega) (by omega) (by omega)).trans h.phe,
    (hF 17 15 (by omega) (by omega) (by omega)).trans h.phc,
    (hF 17 16 (by omega) (by omega) (by omega)).trans h.pov,
    (hF 17 17 (by omega) (by omega) (by omega)).trans h.poc,
    (hF 17 19 (by omega) (by omega) (by omega)).trans h.pcl,
    fun x hx => (hF 29 _ (by omega) (by omega) (by omega)).trans (h.plf x hx),
    (hF 17 21 (by omega) (by omega) (by omega)).trans h.prowN,
    fun k x hk => (hF 30 _ (by omega) (by omega) (by omega)).trans (h.prow k x hk),
    h1,
    h2,
    (hF 17 27 (by omega) (by omega) (by omega)).trans h.ptr,
    (hF 17 28 (by omega) (by omega) (by omega)).trans h.pps,
    (hF 17 29 (by omega) (by omega) (by omega)).trans h.pmv,
    (hF 17 30 (by omega) (by omega) (by omega)).trans h.pwh⟩
theorem MR.w_wait {μ : Mem} {s : St} (h : MR μ s) {x : Nat} : MR (sI (sI μ 30 (row s).length (nI x)) 17 21 (nI ((row s).length + 1))) (urow s (row s ++ [x])) :=
  ⟨fun x hx => (congrFun (mI_ne (by decide)) _).trans ((congrFun (mI_ne (by decide)) _).trans (h.pcel x hx)),
    fun x hx => (congrFun (mI_ne (by decide)) _).trans ((congrFun (mI_ne (by decide)) _).trans (h.psta x hx)),
    fun x hx => (congrFun (mI_ne (by decide)) _).trans ((congrFun (mI_ne (by decide)) _).trans (h.pad x hx)),
    fun x hx => (congrFun (mI_ne (by decide)) _).trans ((congrFun (mI_ne (by decide)) _).trans (h.psz x hx)),
    fun x hx => (congrFun (mI_ne (by decide)) _).trans ((congrFun (mI_ne (by decide)) _).trans (h.ptg x hx)),
    fun x hx => (congrFun (mI_ne (by decide)) _).trans ((congrFun (mI_ne (by decide)) _).trans (h.pct x hx)),
    fun x hx => (congrFun (mI_ne (by decide)) _).trans ((congrFun (mI_ne (by decide)) _).trans (h.pco x hx)),
    fun x i hx hi => (congrFun (mI_ne (by decide)) _).trans ((congrFun (mI_ne (by decide)) _).trans (h.pfl x i hx hi)),
    fun x i hx hi => (congrFun (mI_ne (by decide)) _).trans ((congrFun (mI_ne (by decide)) _).trans (h.plg x i hx hi)),
    (mI_no (by decide)).trans ((congrFun (mI_ne (by decide)) _).trans h.pnx),
    fun x hx => (congrFun (mI_ne (by decide)) _).trans ((congrFun (mI_ne (by decide)) _).trans (h.prt x hx)),
    fun x hx => (congrFun (mI_ne (by decide)) _).trans ((congrFun (mI_ne (by decide)) _).trans (h.pbf x hx)),
    (mI_no (by decide)).trans ((congrFun (mI_ne (by decide)) _).trans h.phf),
    (mI_no (by decide)).trans ((congrFun (mI_ne (by decide)) _).trans h.phe),
    (mI_no (by decide)).trans ((congrFun (mI_ne (by decide)) _).trans h.phc),
    (mI_no (by decide)).trans ((congrFun (mI_ne (by decide)) _).trans h.pov),
    (mI_no (by decide)).trans ((congrFun (mI_ne (by decide)) _).trans h.poc),
    (mI_no (by decide)).trans ((congrFun (mI_ne (by decide)) _).trans h.pcl),
    fun x hx => (congrFun (mI_ne (by decide)) _).trans ((congrFun (mI_ne (by decide)) _).trans (h.plf x hx)),
    by
      show mI (sI _ 17 21 _) 17 21 = nI (row s ++ [x]).length
      rw [mI_sI_self, List.length_append]
      rfl,
    fun k y hk => by
      show mI (sI (sI μ 30 (row s).length (nI x)) 17 21 _) 30 k = nI y
      rw [mI_no (by simp), mI_sI]
      have hk2 : (row s ++ [x])[k]? = some y := hk
      by_cases e : k = (row s).length
      · subst e
        rw [if_pos ⟨rfl, rfl⟩]
        rw [List.getElem?_append_right (Nat.le_refl _)] at hk2
        simp at hk2
        rw [hk2]
      · rw [if_neg (fun z => e z.2)]
        have hlt : k < (row s).length := by
          have := (List.getElem?_eq_some_iff.mp hk2).1
          rw [List.length_append] at this
          simp at this
          omega
        rw [List.getElem?_append_left hlt] at hk2
        exact h.prow k y hk2,
    (mI_no (by decide)).trans ((congrFun (mI_ne (by decide)) _).trans h.plogN),
    fun k x i o hk => ⟨(congrFun (mI_ne (by decide)) _).trans ((congrFun (mI_ne (by decide)) _).trans (h.plog k x i o hk).1), (congrFun (mI_ne (by decide)) _).trans ((congrFun (mI_ne (by decide)) _).trans (h.plog k x i o hk).2)⟩,
    (mI_no (by decide)).trans ((congrFun (mI_ne (by decide)) _).trans h.ptr),
    (mI_no (by decide)).trans ((congrFun (mI_ne (by decide)) _).trans h.pps),
    (mI_no (by decide)).trans ((congrFun (mI_ne (by decide)) _).trans h.pmv),
    (mI_no (by decide)).trans ((congrFun (mI_ne (by decide)) _).trans h.pwh)⟩
